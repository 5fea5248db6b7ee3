/-! the reader: levels. A level: its bracket, what stands before its chain, the numerator, the last factor, whether under a line, the pending script, whether that is a factor's -/
abbrev zLv := Int × List Int × List Int × List Int × Int × Int × Int
def zct (sc : Int) : List Int := if sc = 0 then [] else [sc]
def zom (sc br : Int) : List Int := if br = 4 ∨ sc = 0 then [br] else []
def zpre : List zLv → Int → List Int
  | [], _ => []
  | (b, G, N, F, un, sc, _) :: K, br => zpre K b ++ (zlh un G N ++ (F ++ (zct sc ++ zom sc br)))
/-- what is read and what is still to be closed -/
def zpt : List zLv → Int → Int
  | [], _ => 0
  | (b, G, N, F, un, sc, _) :: K, br => zpt K b + (zlh un G N).length + F.length + 2 * (zct sc).length + 2 * (zom sc br).length + un
def zopc (b : Int) : List zLv → Int
  | [] => 0
  | (_, _, _, _, _, sc, _) :: _ => if b = 4 then (if sc = 0 then 2 else 4) else (if sc = 0 then 1 else 3)
def zkb (br : Int) (K : List zLv) : Prop := (br = 0 ∧ K = []) ∨ ((br = 4 ∨ br = 5) ∧ K ≠ [])
/-- a level whose base is being read -/
def zwl (G N F : List Int) (un sc bo : Int) : Prop := (zbal G ∧ zbal N ∧ zbal F) ∧ (un = 0 ∨ un = 1) ∧ (bo = 0 ∨ bo = 1) ∧ (sc = 0 ∨ sc = 2 ∨ sc = 3) ∧ (sc = 0 → F = []) ∧ (sc ≠ 0 → bo = 0 → un = 0 ∧ F = [])
def zkw : List zLv → Prop
  | [] => True
  | (b, G, N, F, un, sc, bo) :: K => zwl G N F un sc bo ∧ zkb b K ∧ zkw K
def zksC (S : Nat → Int) : List zLv → Prop
  | [] => True
  | (b, G, N, _, un, sc, bo) :: K => (S (6 * K.length) = b ∧ S (6 * K.length + 3) = un ∧ S (6 * K.length + 4) = sc ∧ S (6 * K.length + 5) = bo) ∧ ((sc = 0 ∨ bo = 1) → S (6 * K.length + 1) = ((zpre K b).length : Int) + G.length ∧ S (6 * K.length + 2) = ((zpre K b).length : Int) + (zlh un G N).length) ∧ zksC S K
def zksR (bel cha fac ope own : Nat → Int) : List zLv → Prop
  | [] => True
  | (b, G, N, _, un, sc, bo) :: K => (bel K.length = un ∧ ope K.length = zopc b K ∧ (sc ≠ 0 → own K.length = bo)) ∧ ((sc = 0 ∨ bo = 1) → cha K.length = ((zpre K b).length : Int) + G.length ∧ fac K.length = ((zpre K b).length : Int) + (zlh un G N).length) ∧ zksR bel cha fac ope own K
/-- the arrays below a place -/
theorem zksC.cg {S S' : Nat → Int} : ∀ {K : List zLv}, zksC S K → (∀ j, j < 6 * K.length → S' j = S j) → zksC S' K
  | [], _, _ => trivial
  | (b, G, N, F, un, sc, bo) :: K, ⟨⟨h1, h2, h3, h4⟩, h5, h6⟩, e => by
    simp only [List.length_cons] at e
    refine ⟨⟨?_, ?_, ?_, ?_⟩, fun h => ⟨?_, ?_⟩, h6.cg fun j hj => e j (by omega)⟩
    · rw [e _ (by omega)]; exact h1
    · rw [e _ (by omega)]; exact h2
    · rw [e _ (by omega)]; exact h3
    · rw [e _ (by omega)]; exact h4
    · rw [e _ (by omega)]; exact (h5 h).1
    · rw [e _ (by omega)]; exact (h5 h).2
theorem zksR.cg {bel cha fac ope own bel' cha' fac' ope' own' : Nat → Int} : ∀ {K : List zLv}, zksR bel cha fac ope own K → (∀ j, j < K.length → bel' j = bel j ∧ cha' j = cha j ∧ fac' j = fac j ∧ ope' j = ope j ∧ own' j = own j) → zksR bel' cha' fac' ope' own' K
  | [], _, _ => trivial
  | (b, G, N, F, un, sc, bo) :: K, ⟨⟨h1, h2, h3⟩, h5, h6⟩, e => by
    simp only [List.length_cons] at e
    obtain ⟨e1, e2, e3, e4, e5⟩ := e K.length (by omega)
    refine ⟨⟨?_, ?_, fun h => ?_⟩, fun h => ⟨?_, ?_⟩, h6.cg fun j hj => e j (by omega)⟩
    · rw [e1]; exact h1
    · rw [e4]; exact h2
    · rw [e5]; exact h3 h
    · rw [e2]; exact (h5 h).1
    · rw [e3]; exact (h5 h).2
theorem zpre_le : ∀ {K : List zLv} {br : Int}, zkw K → ((zpre K br).length : Int) ≤ zpt K br
  | [], _, _ => by simp [zpre, zpt]
  | (b, G, N, F, un, sc, bo) :: K, br, ⟨h1, _, h2⟩ => by
    have ih := zpre_le (br := b) h2
    have hu := h1.2.1
    simp only [zpre, zpt, List.length_append]
    omega
theorem zbal_frac {I J : List Int} (hI : zbal I) (hJ : zbal J) : zbal (1 :: (I ++ 6 :: (J ++ [11]))) := zit_bal (Or.inr (Or.inr ⟨I, J, rfl, hI, hJ⟩))
theorem zbal_enc {k : Int} {I : List Int} (hk : 2 ≤ k ∧ k ≤ 5) (hI : zbal I) : zbal (k :: (I ++ [k + 10])) := zit_bal (Or.inr (Or.inl ⟨k, I, rfl, hk.1, hk.2, hI⟩))
theorem zbal_one {m : Int} (hm : (42 ≤ m ∧ m ≤ 122) ∧ zsy m = true) : zbal [m] := zit_bal (Or.inl ⟨m, rfl, hm⟩)
theorem zlh_end {un : Int} {G N X : List Int} (hu : un = 0 ∨ un = 1) (hG : zbal G) (hN : zbal N) (hX : zbal X) : zbal (zlh un G N ++ (X ++ zpd un)) := by
  rcases hu with hu | hu <;> subst hu
  · rw [zlh_0, zpd_0, List.append_nil]; exact zbal_app hG hX
  · have := zbal_app hG (zbal_frac hN hX)
    simpa [zlh_1, zpd_1] using this
/-- a row between two items, or behind a factor -/
def zrw (st : Int) (G N F : List Int) (un pl : Int) : Prop := (zbal G ∧ zbal N ∧ zbal F) ∧ (un = 0 ∨ un = 1) ∧ (pl = 0 ∨ pl = 1) ∧ ((st = 0 ∧ un = 0 ∧ F = []) ∨ (st = 1 ∧ (pl = 1 → ∃ Z, F = 5 :: (Z ++ [15]) ∧ zbal Z)))
theorem zrw.uc {st un pl : Int} {G N F : List Int} (h : zrw st G N F un pl) : ∃ X, zuc un pl F X ∧ zbal X ∧ X.length ≤ F.length := by
  obtain ⟨⟨h1, h2, h3⟩, h4, h5, h6⟩ := h
  by_cases hu : un = 0
  · exact ⟨F, Or.inl ⟨hu, rfl⟩, h3, Nat.le_refl _⟩
  · have hu1 : un = 1 := by omega
    by_cases hp : pl = 0
    · exact ⟨F, Or.inr ⟨hu1, Or.inl ⟨hp, rfl⟩⟩, h3, Nat.le_refl _⟩
    · have hp1 : pl = 1 := by omega
      rcases h6 with ⟨-, h6, -⟩ | ⟨-, h6⟩
      · exact absurd h6 hu
      · obtain ⟨Z, e, hZ⟩ := h6 hp1
        exact ⟨Z, Or.inr ⟨hu1, Or.inr ⟨hp1, e⟩⟩, hZ, by rw [e]; simp only [List.length_append, List.length_cons, List.length_nil]; omega⟩
theorem e_close {st un pl n fa rs dp mx : Int} {M rd bel cha fac pla : Nat → Int} {P G N F : List Int} (h : zrw st G N F un pl) (hC : zCx 360 n M (P ++ (zlh un G N ++ F))) (hR : zRd rs rd (P ++ (zlh un G N ++ F))) (hl : (P.length : Int) + (zlh un G N).length + F.length + un ≤ 360) (hfa : st = 1 → fa = (P.length : Int) + (zlh un G N).length) (hd : 0 ≤ dp ∧ dp < 128) (h1 : bel dp.toNat = un) (h2 : st = 1 → pla dp.toNat = pl ∧ fac dp.toNat = (P.length : Int) + (zlh un G N).length) : ∃ G' pl' n' M' rs' pla' rd', f_X5_endFactor st fa un pl n M = some (0, pl', n', M') ∧ f_X8_closeChain rs dp bel cha fac pla rd = some (rs', va_up bel dp.toNat 0, va_up cha dp.toNat (-9), pla', rd') ∧ zCx 360 n' M' (P ++ G') ∧ zRd rs' rd' (P ++ G') ∧ zbal G' ∧ (G'.length : Int) ≤ (zlh un G N).length + F.length + un ∧ (pl' = 0 ∨ pl' = 1) ∧ pla' dp.toNat = 0 ∧ zsm pla pla' dp.toNat := by
  obtain ⟨X, x1, x2, x3⟩ := h.uc
  obtain ⟨⟨b1, b2, b3⟩, h4, h5, h6⟩ := h
  have hs1 : un = 1 → st = 1 := by
    intro hu
    rcases h6 with ⟨-, h6, -⟩ | ⟨h6, -⟩
    · omega
    · exact h6
  obtain ⟨pl', n', M', c1, c2, c3⟩ := c_endF (A := P ++ zlh un G N) (st := st) (fa := fa) (by rcases h6 with h | h <;> omega) (by rcases h6 with h | h <;> omega) (by simpa using hC) (fun hu => by rw [hfa (hs1 hu)]; simp) x1 h5 (by simp; omega)
  obtain ⟨rs', pla', rd', r1, r2, r3, r4⟩ := r_close (A := P ++ zlh un G N) (dp := dp) (bel := bel) (cha := cha) (fac := fac) (pla := pla) (rs := rs) (rd := rd) (by simpa using hR) (by simp; omega) x1 hd h1 (fun hu => (h2 (hs1 hu)).1) (fun hu => by rw [(h2 (hs1 hu)).2]; simp)
  refine ⟨zlh un G N ++ (X ++ zpd un), pl', n', M', rs', pla', rd', c1, r1, by simpa using c2, by simpa using r2, zlh_end h4 b1 b2 x2, ?_, c3, r3, r4⟩
  rcases h4 with hu | hu
  · subst hu
    simp only [List.length_append, zpd_0, List.length_nil]; omega
  · subst hu
    simp only [List.length_append, zpd_1, List.length_cons, List.length_nil]; omega
