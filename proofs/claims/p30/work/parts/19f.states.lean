/-! p30: what the law follows of its editors between two calls -/
theorem j_top {D : va_G} {κ : q_X} {n cl sl : Nat} {ws : va_W} {lv : List (Nat × Value)} {pc : Nat} {st : List Value} {a b : Int} (h : a = b) (k : q_J D κ n cl sl ws lv pc (.int (iI b) :: st)) : q_J D κ n cl sl ws lv pc (.int (iI a) :: st) := by
  rw [h]; exact k
section ZPM
variable {α : Type} (a b r s x : List α)
theorem zpm_s : (a ++ (b ++ x)).Perm (b ++ (a ++ x)) := by
  rw [← List.append_assoc, ← List.append_assoc]
  exact List.Perm.append_right x List.perm_append_comm
theorem zpm_t : (a ++ (b ++ (r ++ x))).Perm (a ++ (r ++ (b ++ x))) := List.Perm.append_left a (zpm_s b r x)
theorem zpm_n : ((a ++ r) ++ x).Perm (a ++ (r ++ x)) := by
  rw [List.append_assoc]
theorem zpm_a : ((a ++ r) ++ x).Perm ((a ++ x) ++ r) := by
  rw [List.append_assoc, List.append_assoc]
  exact List.Perm.append_left a List.perm_append_comm
theorem zpm_b : ((a ++ r) ++ ((b ++ s) ++ x)).Perm (a ++ (b ++ (r ++ (s ++ x)))) := by
  simp only [List.append_assoc]
  exact List.Perm.append_left a (zpm_s r b _)
theorem zpm_c : ((a ++ r) ++ ((b ++ s) ++ x)).Perm ((a ++ (b ++ (r ++ x))) ++ s) := by
  simp only [List.append_assoc]
  exact List.Perm.append_left a ((zpm_s r b _).trans (List.Perm.append_left b (List.Perm.append_left r List.perm_append_comm)))
theorem zpm_d : ((a ++ r) ++ ((b ++ s) ++ x)).Perm ((a ++ (b ++ (s ++ x))) ++ r) := by
  have e : (r ++ (b ++ (s ++ x))).Perm ((b ++ (s ++ x)) ++ r) := List.perm_append_comm
  simp only [List.append_assoc] at e ⊢
  exact List.Perm.append_left a e
end ZPM
/-- an editor that follows the reference -/
def zE1 (R Dd K P Rc : Nat → Int) (acts : Int) (I : Nat → Int) (A : Nat → Nat → Int) (rF : Nat → Nat → Int) : Prop := zF (I 0) (I 1) (I 2) (A 0) R ∧ zH (I 14) (I 15) (A 13) (A 14) (A 15) rF acts Dd ∧ zKp (I 6) (I 7) (I 8) (I 9) (A 2) (K 0) P ∧ zKp (I 10) (I 11) (I 12) (I 13) (A 3) (K 1) (fun j => P (184 + j)) ∧ ∃ Lc : List Int, zK Lc ∧ zCx 180 (I 16) (A 4) Lc ∧ zRy 184 Rc Lc
/-- an editor with this formula and this clipboard, its second page as the reference has it -/
def zE3 (FA FS FB Lc : List Int) (k2 : Int) (P2 : Nat → Int) (I : Nat → Int) (A : Nat → Nat → Int) (rF : Nat → Nat → Int) : Prop := zCs (I 0) (I 1) (I 2) (A 0) FA FS FB ∧ zCx 180 (I 16) (A 4) Lc ∧ zHh (I 14) (I 15) (A 13) (A 14) (A 15) rF ∧ zKp (I 10) (I 11) (I 12) (I 13) (A 3) k2 P2
/-- and this formula kept on the first page -/
def zE2 (FA FS FB GA GS GB Lc : List Int) (k2 : Int) (P2 : Nat → Int) (I : Nat → Int) (A : Nat → Nat → Int) (rF : Nat → Nat → Int) : Prop := zE3 FA FS FB Lc k2 P2 I A rF ∧ I 6 = 1 ∧ zCs (I 7) (I 8) (I 9) (A 2) GA GS GB
/-- a new editor -/
def zE0 (I : Nat → Int) : Prop := I 0 = 0 ∧ I 1 = 0 ∧ I 2 = 0 ∧ I 6 = 0 ∧ I 10 = 0 ∧ I 14 = 0 ∧ I 15 = 0 ∧ I 16 = 0 ∧ I 17 = 0
theorem zbal_0 : zbal ([] : List Int) := rfl
theorem zI_0 : zI [] [] [] := ⟨⟨rfl, rfl⟩, by decide, by show zpk [] ≤ 5; rw [zpk_nil]; omega⟩
theorem zC_0 {F : Nat → Int} : zC F [] := fun A m T e => by simp at e
theorem zCx_0 {F : Nat → Int} : zCx 180 0 F [] := ⟨⟨rfl, by decide, by decide⟩, zC_0, fun m hm => by simp at hm⟩
theorem zCs_0 {n ca fr : Int} {F : Nat → Int} (h1 : n = 0) (h2 : ca = 0) (h3 : fr = 0) : zCs n ca fr F [] [] [] := by
  subst h1; subst h2; subst h3
  exact ⟨zCx_0, rfl, rfl⟩
theorem zK_0 : zK [] := ⟨rfl, by decide, by rw [zpk_nil]; omega⟩
theorem ztx_0 : ztx [] = [] := rfl
/-- new editors follow one reference -/
theorem zE_first : ∃ R Dd K P Rc : Nat → Int, ∀ (I : Nat → Int) (A : Nat → Nat → Int) (rF : Nat → Nat → Int), zE0 I → zE1 R Dd K P Rc 0 I A rF := by
  obtain ⟨R, hR⟩ := zRs_ex zI_0
  refine ⟨R, fun _ => 0, fun _ => 0, fun _ => 0, R, fun I A rF h => ?_⟩
  obtain ⟨p0, p1, p2, p6, p10, p14, p15, p16, p17⟩ := h
  refine ⟨⟨[], [], [], zI_0, zCs_0 p0 p1 p2, hR⟩, ?_, ?_, ?_, [], zK_0, ?_, hR.1⟩
  · rw [p14, p15]
    exact ⟨⟨by omega, by omega, by omega, by omega, rfl⟩, fun i hi => by omega⟩
  · rw [p6]
    exact ⟨rfl, Or.inl rfl, fun h => by omega⟩
  · rw [p10]
    exact ⟨rfl, Or.inl rfl, fun h => by omega⟩
  · rw [p16]
    exact zCx_0
/-- two editors in one state, nothing remembered: they follow one reference again -/
theorem zE_back {FA FS FB Lp : List Int} {k2 : Int} {P2 I I2 : Nat → Int} {A A2 rF rF2 : Nat → Nat → Int} (hI : zI FA FS FB) (hK : zK Lp) (hp : zE2 FA FS FB FA FS FB Lp k2 P2 I A rF) (hq : zE2 FA FS FB FA FS FB Lp k2 P2 I2 A2 rF2) (hp0 : I 15 = 0) (hq0 : I2 15 = 0) : ∃ R Dd K P Rc : Nat → Int, zE1 R Dd K P Rc 0 I A rF ∧ zE1 R Dd K P Rc 0 I2 A2 rF2 := by
  obtain ⟨R, hR⟩ := zRs_ex hI
  have hIc : zI [] [] Lp := ⟨⟨hK.1, rfl⟩, hK.2.1, hK.2.2⟩
  obtain ⟨Rc, hRc⟩ := zRs_ex hIc
  have hRc' : zRy 184 Rc Lp := hRc.1
  have eP : (fun j => (fun j => if j < 184 then R j else P2 (j - 184)) (184 + j)) = P2 := by
    funext j
    show (if 184 + j < 184 then R (184 + j) else P2 (184 + j - 184)) = P2 j
    rw [if_neg (by omega)]
    rw [show 184 + j - 184 = j by omega]
  have hR' : zRs (fun j => if j < 184 then R j else P2 (j - 184)) FA FS FB := hR.congr (fun j hj => by
    show (if j < 184 then R j else P2 (j - 184)) = R j
    rw [if_pos hj])
  have one : ∀ {I : Nat → Int} {A rF : Nat → Nat → Int}, zE2 FA FS FB FA FS FB Lp k2 P2 I A rF → I 15 = 0 → zE1 R (fun _ => 0) (fun i => if i = 0 then 1 else k2) (fun j => if j < 184 then R j else P2 (j - 184)) Rc 0 I A rF := by
    intro I A rF h h0
    obtain ⟨⟨h1, h2, ⟨acts, Dd, h3⟩, h4⟩, h5, h6⟩ := h
    refine ⟨⟨FA, FS, FB, hI, h1, hR⟩, ?_, ⟨?_, Or.inr h5, fun _ => ⟨FA, FS, FB, hI, h6, hR'⟩⟩, ?_, Lp, hK, h2, hRc'⟩
    · rw [h0]
      exact ⟨⟨h3.1.1, h3.1.2.1, by omega, by omega, rfl⟩, fun i hi => by omega⟩
    · rw [h5]; rfl
    · rw [eP]; exact h4
  exact ⟨R, fun _ => 0, fun i => if i = 0 then 1 else k2, fun j => if j < 184 then R j else P2 (j - 184), Rc, one hp hp0, one hq hq0⟩
