/-! load, on both sides -/
theorem zmx_b0 {L : List Int} (h : L.length ≤ 360) : 0 ≤ zpk L ∧ zpk L ≤ 1000 := by
  have h1 := zpk_0 L
  have h2 := zmx_le L 0 0
  have h3 : zpk L = zmx 0 0 L := rfl
  omega
theorem e_load {o c acts n ca fr tn tn2 top st br ch fa un pl sc bo sz rf rsz dp fl1 fl2 n1 c1 f1 n2 c2 f2 : Int} {rS rC rM D F R F1 F2 P TF TF2 S M kp bel cha fac ope own pla rd : Nat → Int} {rF : Nat → Nat → Int} (hH : zH o c rS rC rM rF acts D) (hF : zF n ca fr F R) (hT : zTx tn tn2 TF TF2) (h1 : zKp fl1 n1 c1 f1 F1 (kp 0) P) (h2 : zKp fl2 n2 c2 f2 F2 (kp 1) (fun j => P (184 + j))) : ∃ (t v v' k fl1' c' n' ca' fr' top' st' br' ch' fa' un' pl' sc' bo' fl2' sz' acts' rs' dp' : Int) (F' S' M' bel' cha' fac' kp' R' ope' own' pla' rd' : Nat → Int), f_X7_load fl1 c n ca fr tn top st br ch fa un pl sc bo fl2 F sz TF S M = some (t, v, fl1', c', n', ca', fr', top', st', br', ch', fa', un', pl', sc', bo', fl2', F', sz', S', M') ∧ f_X8_load rf tn2 acts rsz dp bel cha fac kp R ope own pla rd TF2 = some (v', k, acts', rs', dp', bel', cha', fac', kp', R', ope', own', pla', rd') ∧ zag t k v v' 2 9 ∧ zH o c' rS rC rM rF acts' D ∧ zF n' ca' fr' F' R' ∧ zKp fl1' n1 c1 f1 F1 (kp' 0) P ∧ zKp fl2' n2 c2 f2 F2 (kp' 1) (fun j => P (184 + j)) := by
  obtain ⟨v, top', st', br', ch', fa', un', pl', sc', bo', sz', rs', dp', S', M', bel', cha', fac', ope', own', pla', rd', e1, e2, e3⟩ := e_read (top := top) (st := st) (br := br) (ch := ch) (fa := fa) (un := un) (pl := pl) (sc := sc) (bo := bo) (sz := sz) (rsz := rsz) (dp := dp) (S := S) (M := M) (bel := bel) (cha := cha) (fac := fac) (ope := ope) (own := own) (pla := pla) (rd := rd) hT
  rcases e3 with e3 | ⟨e3, L, b1, b2, b3⟩
  · refine ⟨2, 0, 0, 1, fl1, c, n, ca, fr, top', st', br', ch', fa', un', pl', sc', bo', fl2, sz', acts, rs', dp', F, S', M', bel', cha', fac', kp, R, ope', own', pla', rd', ?_, ?_, Or.inr (Or.inl ⟨rfl, rfl⟩), hH, hF, h1, h2⟩
    · unfold f_X7_load
      rw [e1, z_bd]
      exact z_eq_f (by omega)
    · unfold f_X8_load
      rw [e2, z_bd]
      simp (disch := omega) only [z_jn, z_eq_f, r_rf_1, z_bd]
  · subst e3
    have hn := b2.1
    have hcz := c_count b2 (A := []) (S := L) (B := []) (by simp) (x := 0) (y := sz') rfl (by rw [hn.1]; simp)
    have hdz := c_depth b2 (A := []) (S := L) (B := []) (by simp) (x := 0) (y := sz') rfl (by rw [hn.1]; simp)
    have hRx : zRx 512 rd' L := ⟨⟨by omega, by omega⟩, b3.2, b2.2.2, by omega⟩
    have haz := r_all hRx (A := []) (S := L) (B := []) (by simp) (x := 0) (y := rs') rfl (by rw [b3.1]; simp)
    have hez := r_depth hRx (A := []) (S := L) (B := []) (by simp) (x := 0) (y := rs') rfl (by rw [b3.1]; simp)
    have hzz : zmx 0 0 L = zpk L := rfl
    rw [hzz] at hdz hez
    have hl3 := zlen3 b1
    have hpb := zmx_b0 (L := L) (by omega)
    have hcb := zcnt_b L
    by_cases hbig : 60 < (zcnt L : Int) ∨ 5 < zpk L
    · refine ⟨2, 0, 0, 1, fl1, c, n, ca, fr, top', st', br', ch', fa', un', pl', sc', bo', fl2, sz', acts, rs', dp', F, S', M', bel', cha', fac', kp, R, ope', own', pla', rd', ?_, ?_, Or.inr (Or.inl ⟨rfl, rfl⟩), hH, hF, h1, h2⟩
      · unfold f_X7_load
        rw [e1, z_bd]
        by_cases hb1 : 60 < (zcnt L : Int)
        · simp (disch := omega) only [z_jn, z_eq_t, z_bd, hcz, z_lt_t]
        · simp (disch := omega) only [z_jn, z_eq_t, z_bd, hcz, hdz, z_lt_t, z_lt_f]
      · unfold f_X8_load
        rw [e2, z_bd]
        by_cases hb1 : 60 < (zcnt L : Int)
        · simp (disch := omega) only [z_jn, z_eq_t, z_eq_f, z_bd, haz, z_lt_t, r_rf_1]
        · simp (disch := omega) only [z_jn, z_eq_t, z_eq_f, z_bd, haz, hez, z_lt_t, z_lt_f, r_rf_1]
    · obtain ⟨F', t1, t2⟩ := c_take (N := 180) (n := n) (F := F) (X := []) (Y := L) (Z := []) (N2 := 360) (n2 := sz') (by simpa using b2) (x := 0) (y := sz') rfl (by simp; omega) (by omega) (by omega)
      have hlR : rs' = (L.length : Int) := b3.1
      have hbH := hH.1
      obtain ⟨R', l1, l2⟩ := r_ld_loop (ts := tn2) (rf := 0) (ac := acts) (rs := rs') (dp := dp') (tx := TF2) (bel := bel') (cha := cha') (fac := fac') (kp := kp) (ope := ope') (own := own') (pla := pla') (rd := rd') (e := fun (z9 : Int × Int × Int × Int × (Nat → Int) × (Nat → Int) × (Nat → Int) × (Nat → Int) × (Nat → Int) × (Nat → Int) × (Nat → Int) × (Nat → Int) × (Nat → Int) × Int) => gIn 180 184 (gIn 181 184 (gIn 182 184 (gIn 0 2 (gB 0 (gIn 1 2 (gB 0 (bd (f_X8_allIn 184 (va_up (va_up (va_up z9.2.2.2.2.2.2.2.2.1 (180 : Int).toNat z9.2.2.1) (181 : Int).toNat 0) (182 : Int).toNat ((-9))) 0 z9.2.2.1) (fun r10 => some (r10, z9.1, 0, z9.2.2.1, z9.2.2.2.1, z9.2.2.2.2.1, z9.2.2.2.2.2.1, z9.2.2.2.2.2.2.1, va_up (va_up z9.2.2.2.2.2.2.2.1 (0 : Int).toNat 0) (1 : Int).toNat 0, va_up (va_up (va_up z9.2.2.2.2.2.2.2.2.1 (180 : Int).toNat z9.2.2.1) (181 : Int).toNat 0) (182 : Int).toNat ((-9)), z9.2.2.2.2.2.2.2.2.2.1, z9.2.2.2.2.2.2.2.2.2.2.1, z9.2.2.2.2.2.2.2.2.2.2.2.1, z9.2.2.2.2.2.2.2.2.2.2.2.2.1)))))))))) L [] fuel R 0 (by simpa using b3.2) (by intro A m T e; simp at e) (by simp; omega) (by omega) (by unfold fuel; omega) rfl
      have hz1 : zR (va_up (va_up (va_up R' 180 rs') 181 0) 182 (-9)) L := zR_out (zR_out (zR_out (by simpa using l2) (by omega)) (by omega)) (by omega)
      have hRx2 : zRx 184 (va_up (va_up (va_up R' 180 rs') 181 0) 182 (-9)) L := ⟨⟨by omega, by omega⟩, hz1, b2.2.2, by omega⟩
      have haz2 := r_all hRx2 (A := []) (S := L) (B := []) (by simp) (x := 0) (y := rs') rfl (by rw [b3.1]; simp)
      have hci := c_count t2 (A := []) (S := L) (B := []) (by simp) (x := 0) (y := (L.length : Int)) rfl (by simp)
      refine ⟨0, (zcnt L : Int), (zcnt L : Int), 0, 0, 0, (L.length : Int), 0, 0, top', st', br', ch', fa', un', pl', sc', bo', 0, sz', 0, rs', dp', F', S', M', bel', cha', fac', va_up (va_up kp 0 0) 1 0, va_up (va_up (va_up R' 180 rs') 181 0) 182 (-9), ope', own', pla', rd', ?_, ?_, Or.inl ⟨rfl, rfl, rfl, by omega, by omega⟩, ⟨⟨hbH.1, hbH.2.1, by omega, by omega, rfl⟩, fun i hi => by omega⟩, ⟨[], [], L, ⟨⟨by simpa using b1, rfl⟩, by simp; omega, by simp; omega⟩, ⟨by simpa using t2, rfl, rfl⟩, ⟨⟨by simpa using hRx2, ?_, by simp; omega, by omega⟩, ?_, ?_⟩⟩, ⟨?_, Or.inl rfl, fun h => by omega⟩, ⟨?_, Or.inl rfl, fun h => by omega⟩⟩
      · have t1' : f_X3_take 180 360 n F M' 0 sz' = some ((L.length : Int), F') := t1
        have hall : f_X3_allItems 180 (L.length : Int) F' = some (zcnt L : Int) := by
          unfold f_X3_allItems
          rw [hci, z_bd]
        unfold f_X7_load f_X0_putCaret f_X1_forget
        rw [e1, z_bd]
        simp (disch := omega) only [z_jn, z_eq_t, z_bd, hcz, hdz, z_lt_f, t1', z_gB, hall]
      · unfold f_X8_load
        rw [e2, z_bd]
        simp (disch := omega) only [z_jn, z_eq_t, z_bd, haz, hez, z_lt_f, r_rf_0]
        refine l1.trans ?_
        simp (disch := omega) only [z_in, z_gB]
        rw [show (180 : Int).toNat = 180 from rfl, show (181 : Int).toNat = 181 from rfl, show (182 : Int).toNat = 182 from rfl, haz2, z_bd]
        rfl
      · simp (disch := omega) only [zup_ne, zup_eq]
        simp; omega
      · simp (disch := omega) only [zup_ne, zup_eq]
        simp
      · simp (disch := omega) only [zup_ne, zup_eq]
        simp
      · simp (disch := omega) only [zup_ne, zup_eq]
      · simp (disch := omega) only [zup_eq]
