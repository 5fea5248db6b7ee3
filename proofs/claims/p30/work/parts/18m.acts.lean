/-! p30: an action, as the reference would do it -/
/-- what a call answers: a value, or the mark of what is thrown -/
def ztc (e1 e2 k v : Int) : Int := if k = 0 then v else if k = 1 then e1 else e2
theorem zag_tg2 {σ : Type} {t k v v' t1 t2 e1 e2 : Int} {s : σ} (h : zag t k v v' t1 t2) (h1 : ¬ t1 = 0) (h2 : ¬ t2 = 0 ∧ ¬ t2 = t1) : tg2 t t1 t2 (some (v, s)) (some (e1, s)) (some (e2, s)) = some (ztc e1 e2 k v', s) := by
  rcases h with ⟨a, b, c, -, -⟩ | ⟨a, b⟩ | ⟨a, b, -⟩
  · rw [z_tg2 a, c]; unfold ztc; rw [if_pos b]
  · rw [z_tg2x ⟨by omega, a⟩]; unfold ztc; rw [if_neg (by omega), if_pos b]
  · rw [z_tg2y ⟨by omega, by omega, a⟩]; unfold ztc; rw [if_neg (by omega), if_neg (by omega)]
theorem zag_tg1 {σ : Type} {t k v v' t1 e1 : Int} {s : σ} (h : zag t k v v' t1 9) (h1 : ¬ t1 = 0) : tg1 t t1 (some (v, s)) (some (e1, s)) = some (ztc e1 e1 k v', s) := by
  rcases h with ⟨a, b, c, -, -⟩ | ⟨a, b⟩ | ⟨a, b, c⟩
  · rw [z_tg1 a, c]; unfold ztc; rw [if_pos b]
  · rw [z_tg1x ⟨by omega, a⟩]; unfold ztc; rw [if_neg (by omega), if_pos b]
  · exact absurd rfl c
section SA
variable {o c acts n ca fr cn : Int} {rS rC rM D F R Fc Rc : Nat → Int} {rF : Nat → Nat → Int} {Lc : List Int}
theorem s_type (hH : zH o c rS rC rM rF acts D) (hF : zF n ca fr F R) {x : Int} (hx : -2147483648 ≤ x ∧ x ≤ 2147483647) : ∃ v' k acts' D' R' T', f_X8_type 0 acts D R (fun _ => 0) x = some (v', k, acts', D', R', T') ∧ ∃ o' c' n' ca' fr' F' rS' rC' rM' rF', f_L_tryType o c n ca fr F rS rC rM rF x = some (ztc (-1002) (-1003) k v', o', c', n', ca', fr', F', rS', rC', rM', rF') ∧ zH o' c' rS' rC' rM' rF' acts' D' ∧ zF n' ca' fr' F' R' := by
  obtain ⟨t, v, v', k, o', c', n', ca', fr', F', rS', rC', rM', rF', acts', D', R', T', a1, a2, a3, a4, a5⟩ := e_type (rf := 0) (fun _ => 0) hH hF hx
  refine ⟨v', k, acts', D', R', T', a2, o', c', n', ca', fr', F', rS', rC', rM', rF', ?_, a4, a5⟩
  unfold f_L_tryType
  rw [a1, z_bd]
  exact zag_tg2 a3 (by omega) (by omega)
theorem s_wrap (hH : zH o c rS rC rM rF acts D) (hF : zF n ca fr F R) {x : Int} (hx : -2147483648 ≤ x ∧ x ≤ 2147483647) : ∃ v' k acts' D' R' T', f_X8_wrap 0 acts D R (fun _ => 0) x = some (v', k, acts', D', R', T') ∧ ∃ o' c' n' ca' fr' F' rS' rC' rM' rF', f_L_tryWrap o c n ca fr F rS rC rM rF x = some (ztc (-1002) (-1003) k v', o', c', n', ca', fr', F', rS', rC', rM', rF') ∧ zH o' c' rS' rC' rM' rF' acts' D' ∧ zF n' ca' fr' F' R' := by
  obtain ⟨t, v, v', k, o', c', n', ca', fr', F', rS', rC', rM', rF', acts', D', R', T', a1, a2, a3, a4, a5⟩ := e_wrap (rf := 0) (fun _ => 0) hH hF hx
  refine ⟨v', k, acts', D', R', T', a2, o', c', n', ca', fr', F', rS', rC', rM', rF', ?_, a4, a5⟩
  unfold f_L_tryWrap
  rw [a1, z_bd]
  exact zag_tg2 a3 (by omega) (by omega)
theorem s_backspace (hH : zH o c rS rC rM rF acts D) (hF : zF n ca fr F R) : ∃ v' k acts' D' R' T', f_X8_backspace 0 acts D R (fun _ => 0) = some (v', k, acts', D', R', T') ∧ ∃ o' c' n' ca' fr' F' rS' rC' rM' rF', f_L_tryBackspace o c n ca fr F rS rC rM rF = some (ztc (-1003) (-1003) k v', o', c', n', ca', fr', F', rS', rC', rM', rF') ∧ zH o' c' rS' rC' rM' rF' acts' D' ∧ zF n' ca' fr' F' R' := by
  obtain ⟨t, v, v', k, o', c', n', ca', fr', F', rS', rC', rM', rF', acts', D', R', T', a1, a2, a3, a4, a5⟩ := e_backspace (rf := 0) (fun _ => 0) hH hF
  refine ⟨v', k, acts', D', R', T', a2, o', c', n', ca', fr', F', rS', rC', rM', rF', ?_, a4, a5⟩
  unfold f_L_tryBackspace
  rw [a1, z_bd]
  exact zag_tg1 a3 (by omega)
theorem s_paste (hH : zH o c rS rC rM rF acts D) (hF : zF n ca fr F R) (hK : zK Lc) (hCc : zCx 180 cn Fc Lc) (hRc : zRy 184 Rc Lc) : ∃ v' k acts' D' R' T', f_X8_paste 0 acts Rc D R (fun _ => 0) = some (v', k, acts', D', R', T') ∧ ∃ o' c' n' ca' fr' F' rS' rC' rM' rF', f_L_tryPaste cn o c n ca fr Fc F rS rC rM rF = some (ztc (-1003) (-1003) k v', o', c', n', ca', fr', F', rS', rC', rM', rF') ∧ zH o' c' rS' rC' rM' rF' acts' D' ∧ zF n' ca' fr' F' R' := by
  obtain ⟨t, v, v', k, o', c', n', ca', fr', F', rS', rC', rM', rF', acts', D', R', T', a1, a2, a3, a4, a5⟩ := e_paste (rf := 0) (fun _ => 0) hH hF hK hCc hRc
  refine ⟨v', k, acts', D', R', T', a2, o', c', n', ca', fr', F', rS', rC', rM', rF', ?_, a4, a5⟩
  unfold f_L_tryPaste
  rw [a1, z_bd]
  exact zag_tg1 a3 (by omega)
theorem s_undo (hH : zH o c rS rC rM rF acts D) (hF : zF n ca fr F R) : ∃ v' k acts' R', f_X8_undo 0 acts D R = some (v', k, acts', R') ∧ ∃ c' n' ca' fr' F', f_L_tryUndo o c n ca fr F rS rC rM rF = some (ztc (-1003) (-1003) k v', c', n', ca', fr', F') ∧ zH o c' rS rC rM rF acts' D ∧ zF n' ca' fr' F' R' := by
  obtain ⟨t, v, v', k, c', n', ca', fr', F', acts', R', a1, a2, a3, a4, a5⟩ := e_undo (rf := 0) hH hF
  refine ⟨v', k, acts', R', a2, c', n', ca', fr', F', ?_, a4, a5⟩
  unfold f_L_tryUndo
  rw [a1, z_bd]
  exact zag_tg1 a3 (by omega)
theorem s_replace (hH : zH o c rS rC rM rF acts D) (hF : zF n ca fr F R) {x y : Int} (hx : -2147483648 ≤ x ∧ x ≤ 2147483647) (hy : -2147483648 ≤ y ∧ y ≤ 2147483647) : ∃ v' k acts' D' R', f_X8_replace 0 acts D R x y = some (v', k, acts', D', R') ∧ ∃ o' c' F' rS' rC' rM' rF', f_L_tryReplace o c n ca fr F rS rC rM rF x y = some (ztc (-1002) (-1002) k v', o', c', F', rS', rC', rM', rF') ∧ zH o' c' rS' rC' rM' rF' acts' D' ∧ zF n ca fr F' R' := by
  obtain ⟨t, v, v', k, o', c', F', rS', rC', rM', rF', acts', D', R', a1, a2, a3, a4, a5⟩ := e_replace (rf := 0) hH hF hx hy
  refine ⟨v', k, acts', D', R', a2, o', c', F', rS', rC', rM', rF', ?_, a4, a5⟩
  unfold f_L_tryReplace
  rw [a1, z_bd]
  exact zag_tg1 a3 (by omega)
theorem s_save {fl1 fl2 n1 c1 f1 n2 c2 f2 : Int} {F1 F2 K P : Nat → Int} (hF : zF n ca fr F R) (h1 : zKp fl1 n1 c1 f1 F1 (K 0) P) (h2 : zKp fl2 n2 c2 f2 F2 (K 1) (fun j => P (184 + j))) {x : Int} (hx : -2147483648 ≤ x ∧ x ≤ 2147483647) : ∃ v' k K' P', f_X8_save 0 K P R x = some (v', k, K', P') ∧ ∃ fl1' fl2' n1' c1' f1' n2' c2' f2' F1' F2', f_L_trySave fl1 n ca fr fl2 n1 c1 f1 F n2 c2 f2 F1 F2 x = some (ztc (-1001) (-1001) k v', fl1', fl2', n1', c1', f1', n2', c2', f2', F1', F2') ∧ zKp fl1' n1' c1' f1' F1' (K' 0) P' ∧ zKp fl2' n2' c2' f2' F2' (K' 1) (fun j => P' (184 + j)) := by
  obtain ⟨t, v, v', k, fl1', fl2', n1', c1', f1', n2', c2', f2', F1', F2', K', P', a1, a2, a3, a4, a5⟩ := e_save (rf := 0) hF h1 h2 hx
  refine ⟨v', k, K', P', a2, fl1', fl2', n1', c1', f1', n2', c2', f2', F1', F2', ?_, a4, a5⟩
  unfold f_L_trySave
  rw [a1, z_bd]
  exact zag_tg1 a3 (by omega)
theorem s_restore {fl1 fl2 n1 c1 f1 n2 c2 f2 : Int} {F1 F2 K P : Nat → Int} (hH : zH o c rS rC rM rF acts D) (hF : zF n ca fr F R) (h1 : zKp fl1 n1 c1 f1 F1 (K 0) P) (h2 : zKp fl2 n2 c2 f2 F2 (K 1) (fun j => P (184 + j))) {x : Int} (hx : -2147483648 ≤ x ∧ x ≤ 2147483647) : ∃ v' k acts' R', f_X8_restore 0 acts K P R x = some (v', k, acts', R') ∧ ∃ c' n' ca' fr' F', f_L_tryRestore fl1 c n ca fr fl2 n1 c1 f1 F n2 c2 f2 F1 F2 x = some (ztc (-1001) (-1003) k v', c', n', ca', fr', F') ∧ zH o c' rS rC rM rF acts' D ∧ zF n' ca' fr' F' R' := by
  obtain ⟨t, v, v', k, c', n', ca', fr', F', acts', R', a1, a2, a3, a4, a5⟩ := e_restore (rf := 0) hH hF h1 h2 hx
  refine ⟨v', k, acts', R', a2, c', n', ca', fr', F', ?_, a4, a5⟩
  unfold f_L_tryRestore
  rw [a1, z_bd]
  exact zag_tg2 a3 (by omega) (by omega)
theorem s_moveTo (hF : zF n ca fr F R) {x : Int} (hx : -2147483648 ≤ x ∧ x ≤ 2147483647) : ∃ v' k R', f_X8_moveTo 0 R x = some (v', k, R') ∧ ∃ ca' fr', f_L_tryMoveTo n ca fr x = some (ztc (-1001) (-1001) k v', ca', fr') ∧ zF n ca' fr' F R' := by
  obtain ⟨A, S, B, hI, hC, hR⟩ := hF
  obtain ⟨t, v, v', k, ca', fr', R', a1, a2, a3, a4⟩ := e_moveTo (rf := 0) hI hC hR hx
  refine ⟨v', k, R', a2, ca', fr', ?_, a4⟩
  unfold f_L_tryMoveTo
  rw [a1, z_bd]
  exact zag_tg1 a3 (by omega)
theorem s_moveBy (hF : zF n ca fr F R) {x : Int} (hx : -2147483648 ≤ x ∧ x ≤ 2147483647) : ∃ v' k R', f_X8_moveBy 0 R x = some (v', k, R') ∧ ∃ ca' fr', f_L_tryMoveBy n ca fr x = some (ztc (-1002) (-1002) k v', ca', fr') ∧ zF n ca' fr' F R' := by
  obtain ⟨A, S, B, hI, hC, hR⟩ := hF
  obtain ⟨t, v, v', k, ca', fr', R', a1, a2, a3, a4⟩ := e_moveBy (rf := 0) hI hC hR hx
  refine ⟨v', k, R', a2, ca', fr', ?_, a4⟩
  unfold f_L_tryMoveBy
  rw [a1, z_bd]
  exact zag_tg1 a3 (by omega)
theorem s_grow (hF : zF n ca fr F R) : ∃ v' k R', f_X8_grow 0 R = some (v', k, R') ∧ ∃ ca' fr', f_L_tryGrow n ca fr F = some (ztc (-1003) (-1003) k v', ca', fr') ∧ zF n ca' fr' F R' := by
  obtain ⟨A, S, B, hI, hC, hR⟩ := hF
  obtain ⟨t, v, v', k, ca', fr', R', a1, a2, a3, a4⟩ := e_growc (rf := 0) hI hC hR
  refine ⟨v', k, R', a2, ca', fr', ?_, a4⟩
  unfold f_L_tryGrow
  rw [a1, z_bd]
  exact zag_tg1 a3 (by omega)
theorem s_extend (hF : zF n ca fr F R) {x : Int} (hx : x = 0 ∨ x = 1) : ∃ v' k R', f_X8_extend 0 R x = some (v', k, R') ∧ ∃ ca' fr', f_L_tryExtend n ca fr F x = some (ztc (-1003) (-1003) k v', ca', fr') ∧ zF n ca' fr' F R' := by
  obtain ⟨A, S, B, hI, hC, hR⟩ := hF
  obtain ⟨t, v, v', k, ca', fr', R', a1, a2, a3, a4⟩ := e_extend (rf := 0) hI hC hR hx
  refine ⟨v', k, R', a2, ca', fr', ?_, a4⟩
  unfold f_L_tryExtend
  rw [a1, z_bd]
  exact zag_tg1 a3 (by omega)
theorem s_vert (hF : zF n ca fr F R) {up : Int} (hu : up = 0 ∨ up = 1) : ∃ v' R', f_X8_moveVertically 0 R up = some (v', 0, R') ∧ ∃ ca' fr', f_X7_moveVertically n ca fr F up = some (v', ca', fr') ∧ zF n ca' fr' F R' := by
  obtain ⟨A, S, B, hI, hC, hR⟩ := hF
  obtain ⟨v, ca', fr', R', a1, a2, a4⟩ := e_vert (rf := 0) hI hC hR hu
  exact ⟨v, R', a2, ca', fr', a1, a4⟩
theorem s_copy (hF : zF n ca fr F R) (hK : zK Lc) (hCc : zCx 180 cn Fc Lc) (hRc : zRy 184 Rc Lc) : ∃ v' k Rc', f_X8_copy 0 Rc R = some (v', k, Rc') ∧ ∃ cn' Fc', f_L_tryCopy cn ca fr Fc F = some (ztc (-1003) (-1003) k v', cn', Fc') ∧ ∃ Lc', zK Lc' ∧ zCx 180 cn' Fc' Lc' ∧ zRy 184 Rc' Lc' := by
  obtain ⟨A, S, B, hI, hC, hR⟩ := hF
  obtain ⟨t, v, v', k, cn', Fc', Rc', a1, a2, a3, a4⟩ := e_copy (rf := 0) hI hC hR hK hCc hRc
  refine ⟨v', k, Rc', a2, cn', Fc', ?_, a4⟩
  unfold f_L_tryCopy
  rw [a1, z_bd]
  exact zag_tg1 a3 (by omega)
end SA
