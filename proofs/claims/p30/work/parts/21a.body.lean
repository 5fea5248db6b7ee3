/-! p30: the body of the law (written by wip/p30/gen32.py) -/
theorem j_icmp_nsame {D : va_G} {cs : q_CS} {κ : q_X} {cc : ByteArray} {n cl sl : Nat} {own : String} {rm : Room} {ws : va_W} {lv : List (Nat × Value)} {pc : Nat} {st : List Value} {a b : Int} {off : Int} (tgt : Nat) (hab : a = b) (ok : q_ok D cs κ cc n own rm) (hdg : decode cc pc = .ok (.if_icmp .ne off, 3)) (ht : (pc : Int) + off = (tgt : Int)) (kf : q_J D κ n cl sl ws lv (pc + 3) st) : q_J D κ n cl sl ws lv pc (.int (iI b) :: .int (iI a) :: st) := by
  obtain ⟨p, l, e, R, s, m, args, below, meth, c, A, Q⟩ := κ
  obtain ⟨hx, hb, hml, hown, hE, hA, hR⟩ := ok
  intro H locs ls hP hD hS hl
  subst hab
  exact lv_icmp_ne hx hb hdg ht (fun q => absurd rfl q) (fun _ => kf H locs ls hP hD hS hl)
section QLB
variable {D : va_G} {cs : q_CS} {κ : q_X} {cl sl b L : Nat} {xs : Nat → Int32} {Z Y : va_W} {ap rQp rMp aq rQq rMq ar rQr rMr : Nat → Nat} {Ip Iq Ir : Nat → Int} {Ap Aq Ar Fp Fq Fr : Nat → Nat → Int}
set_option maxRecDepth 100000 in
set_option maxHeartbeats 4000000 in
theorem lw_rnd1 {R Dd K P Rc : Nat → Int} {acts : Int} {k : Int} {c3 : Nat} (ok : q_ok D cs κ cL_law 8 RL room_1) (ky : q_ky κ) (sc : q_sc κ b L xs) (hk : 0 ≤ k ∧ k < 30) (hcl : cl + 100 ≤ 600130 ∧ sl + 700 ≤ 7301080) (hp : zE1 R Dd K P Rc acts Ip Ap Fp) (hq : zE1 R Dd K P Rc acts Iq Aq Fq) (kk : ∀ (R Dd K P Rc : Nat → Int) (acts : Int) (Ip Iq : Nat → Int) (Ap Fp Aq Fq : Nat → Nat → Int) (y : Int), 0 ≤ y ∧ y ≤ 2147483647 → zE1 R Dd K P Rc acts Ip Ap Fp → zE1 R Dd K P Rc acts Iq Aq Fq → q_J D κ 8 (cl + 100) (sl + 700) (zB cs ap rQp rMp Ip Ap Fp ++ (zB cs aq rQq rMq Iq Aq Fq ++ Z)) [(4, .int (iI 1)), (7, .int (iI y)), (5, .int (iI k)), (0, .ref b), (1, .ref (ap 0)), (2, .ref (aq 0)), (3, .ref c3)] 248 []) : q_J D κ 8 cl sl (zB cs ap rQp rMp Ip Ap Fp ++ (zB cs aq rQq rMq Iq Aq Fq ++ Z)) [(4, .int (iI 1)), (5, .int (iI k)), (0, .ref b), (1, .ref (ap 0)), (2, .ref (aq 0)), (3, .ref c3)] 149 [] := by
  refine j_iload (pc := 149) 1 ok dL_law_149 rfl ?_
  refine j_bipush (pc := 151) ok dL_law_151 (by decide) ?_
  refine j_icmp_ge (ρ := Unit) (r := ()) (A := none) (B := some ()) (a := k) (b := 30) (pc := 153) 356 ok dL_law_153 (by decide) (z_lt_t (by omega)) (fun h => by cases h) (fun _ => ?_)
  refine j_iload (pc := 156) 0 ok dL_law_156 rfl ?_
  refine j_eq_f (pc := 158) 356 (by decide) (by decide) ok dL_law_158 (by decide) ?_
  refine j_aload_n (pc := 161) 2 ok dL_law_161 rfl rfl ?_
  refine j_iconst (pc := 162) ok dL_law_162 ?_
  refine j_iload (pc := 163) 1 ok dL_law_163 rfl ?_
  refine j_imul (pc := 165) ok dL_law_165 ?_
  refine j_callC (pc := 166) ok sc gS_L_231 (by omega) rfl ⟨(by have := hcl.1; show cl ≤ 600130; omega), (by have := hcl.2; show sl ≤ 7301080; omega)⟩ (Nat.le_of_ble_eq_true rfl) dL_law_166 ?_
  obtain ⟨x, ex⟩ : ∃ x, x = zcl9 L xs (2 * k) := ⟨_, rfl⟩
  have hx : 0 ≤ x ∧ x ≤ 2147483647 := by rw [ex]; exact zcl9_r _ _ _
  refine j_top ex.symm ?_
  refine j_istore (pc := 169) (lv' := [(6, .int (iI x)), (4, .int (iI 1)), (5, .int (iI k)), (0, .ref b), (1, .ref (ap 0)), (2, .ref (aq 0)), (3, .ref c3)]) ok dL_law_169 (by decide) rfl ?_
  refine j_aload_n (pc := 171) 3 ok dL_law_171 rfl rfl ?_
  refine j_iconst (pc := 172) ok dL_law_172 ?_
  refine j_iload (pc := 173) 2 ok dL_law_173 rfl ?_
  refine j_imul (pc := 175) ok dL_law_175 ?_
  refine j_iconst (pc := 176) ok dL_law_176 ?_
  refine j_iadd (pc := 177) ok dL_law_177 ?_
  refine j_callC (pc := 178) ok sc gS_L_231 (by omega) rfl ⟨(by have := hcl.1; show cl ≤ 600130; omega), (by have := hcl.2; show sl ≤ 7301080; omega)⟩ (Nat.le_of_ble_eq_true rfl) dL_law_178 ?_
  obtain ⟨y, ey⟩ : ∃ y, y = zcl9 L xs ((2 * k) + 1) := ⟨_, rfl⟩
  have hy : 0 ≤ y ∧ y ≤ 2147483647 := by rw [ey]; exact zcl9_r _ _ _
  refine j_top ey.symm ?_
  refine j_istore (pc := 181) (lv' := [(7, .int (iI y)), (6, .int (iI x)), (4, .int (iI 1)), (5, .int (iI k)), (0, .ref b), (1, .ref (ap 0)), (2, .ref (aq 0)), (3, .ref c3)]) ok dL_law_181 (by decide) rfl ?_
  refine j_aload_n (pc := 183) 5 ok dL_law_183 rfl rfl ?_
  refine j_iload (pc := 184) 1 ok dL_law_184 rfl ?_
  refine j_iload (pc := 186) 0 ok dL_law_186 rfl ?_
  obtain ⟨v, R2, D2, K2, P2, Rc2, acts2, w1, w2⟩ := m_act2 hx hy hp hq
  refine lt_act (pc := 188) w1 ok ky ⟨by omega, by omega⟩ (Nat.le_of_ble_eq_true rfl) dL_law_188 (fun Ip Ap Fp hp => ?_)
  refine j_aload_n (pc := 191) 6 ok dL_law_191 rfl rfl ?_
  refine j_iload (pc := 192) 1 ok dL_law_192 rfl ?_
  refine j_iload (pc := 194) 0 ok dL_law_194 rfl ?_
  refine j_perm (zpm_s _ _ _) ?_
  refine lt_act (pc := 196) w2 ok ky ⟨by omega, by omega⟩ (Nat.le_of_ble_eq_true rfl) dL_law_196 (fun Iq Aq Fq hq => ?_)
  refine j_perm (zpm_s _ _ _) ?_
  refine j_icmp_nsame (pc := 199) 245 rfl ok dL_law_199 (by decide) ?_
  refine j_aload_n (pc := 202) 6 ok dL_law_202 rfl rfl ?_
  refine j_perm (zpm_s _ _ _) ?_
  refine lt_refuses (pc := 203) hq ok ky ⟨by omega, by omega⟩ (Nat.le_of_ble_eq_true rfl) dL_law_203 (fun Iq Aq Fq hq => ?_)
  refine j_perm (zpm_s _ _ _) ?_
  refine j_eq_f (pc := 206) 245 (by decide) (by decide) ok dL_law_206 (by decide) ?_
  refine j_aload_n (pc := 209) 5 ok dL_law_209 rfl rfl ?_
  refine j_aload_n (pc := 210) 6 ok dL_law_210 rfl rfl ?_
  refine lt_alike (pc := 211) hp hq ok ky ⟨by omega, by omega⟩ (Nat.le_of_ble_eq_true rfl) dL_law_211 (fun Ip Ap Fp Iq Aq Fq hp hq => ?_)
  refine j_eq_f (pc := 214) 245 (by decide) (by decide) ok dL_law_214 (by decide) ?_
  refine j_aload_n (pc := 217) 5 ok dL_law_217 rfl rfl ?_
  refine lt_places (pc := 218) hp ok ky ⟨by omega, by omega⟩ (Nat.le_of_ble_eq_true rfl) dL_law_218 ?_
  refine j_eq_f (pc := 221) 245 (by decide) (by decide) ok dL_law_221 (by decide) ?_
  refine j_iload (pc := 224) 3 ok dL_law_224 rfl ?_
  refine j_bipush (pc := 226) ok dL_law_226 (by decide) ?_
  refine j_irem (ρ := Unit) (r := ()) (B := some ()) (pc := 228) ok dL_law_228 (by decide) (by decide) (z_gR (by omega)) (fun _ => ?_)
  refine j_bipush (pc := 229) ok dL_law_229 (by decide) ?_
  by_cases h9 : k.tmod 10 = 9
  · refine j_icmp_ne (ρ := Unit) (r := ()) (A := none) (B := some ()) (pc := 231) 241 ok dL_law_231 (by decide) (z_eq_t (by omega)) (fun h => by cases h) (fun _ => ?_)
    refine j_aload_n (pc := 234) 5 ok dL_law_234 rfl rfl ?_
    refine lt_drawings (pc := 235) hp ok ky ⟨by omega, by omega⟩ (Nat.le_of_ble_eq_true rfl) dL_law_235 (fun Ip Ap Fp hp => ?_)
    refine j_eq_f (pc := 238) 245 (by decide) (by decide) ok dL_law_238 (by decide) ?_
    refine j_iconst (pc := 241) ok dL_law_241 ?_
    refine j_goto (pc := 242) 246 ok dL_law_242 (by decide) ?_
    refine j_istore (pc := 246) (lv' := [(4, .int (iI 1)), (7, .int (iI y)), (6, .int (iI x)), (5, .int (iI k)), (0, .ref b), (1, .ref (ap 0)), (2, .ref (aq 0)), (3, .ref c3)]) ok dL_law_246 (by decide) rfl ?_
    refine j_lv [0, 1, 3, 4, 5, 6, 7] rfl ?_
    refine j_wide (cl2 := cl + 100) (sl2 := sl + 700) (by omega) (by omega) ?_
    exact kk _ _ _ _ _ _ _ _ _ _ _ _ _ hy hp hq
  · refine j_icmp_ne (ρ := Unit) (r := ()) (A := some ()) (B := none) (pc := 231) 241 ok dL_law_231 (by decide) (z_eq_f (by have := ztm9 (k := 10) hk.1 (by omega); omega)) (fun _ => ?_) (fun h => by cases h)
    refine j_iconst (pc := 241) ok dL_law_241 ?_
    refine j_goto (pc := 242) 246 ok dL_law_242 (by decide) ?_
    refine j_istore (pc := 246) (lv' := [(4, .int (iI 1)), (7, .int (iI y)), (6, .int (iI x)), (5, .int (iI k)), (0, .ref b), (1, .ref (ap 0)), (2, .ref (aq 0)), (3, .ref c3)]) ok dL_law_246 (by decide) rfl ?_
    refine j_lv [0, 1, 3, 4, 5, 6, 7] rfl ?_
    refine j_wide (cl2 := cl + 100) (sl2 := sl + 700) (by omega) (by omega) ?_
    exact kk _ _ _ _ _ _ _ _ _ _ _ _ _ hy hp hq
set_option maxRecDepth 100000 in
set_option maxHeartbeats 4000000 in
theorem lw_rnd2 {R Dd K P Rc : Nat → Int} {acts : Int} {k y : Int} (ok : q_ok D cs κ cL_law 8 RL room_1) (ky : q_ky κ) (hk : 0 ≤ k ∧ k < 30) (hy : 0 ≤ y ∧ y ≤ 2147483647) (hcl : cl + 160 ≤ 600130 ∧ sl + 900 ≤ 7301080) (hp : zE1 R Dd K P Rc acts Ip Ap Fp) (hq : zE1 R Dd K P Rc acts Iq Aq Fq) (hr : 0 ≤ Ir 17 ∧ Ir 17 ≤ 120) (kk : ∀ (R Dd K P Rc : Nat → Int) (acts : Int) (Ip Iq Ir : Nat → Int) (Ap Fp Aq Fq Ar Fr : Nat → Nat → Int), zE1 R Dd K P Rc acts Ip Ap Fp → zE1 R Dd K P Rc acts Iq Aq Fq → 0 ≤ Ir 17 ∧ Ir 17 ≤ 120 → q_J D κ 8 (cl + 160) (sl + 900) (zB cs ap rQp rMp Ip Ap Fp ++ (zB cs aq rQq rMq Iq Aq Fq ++ (zB cs ar rQr rMr Ir Ar Fr ++ Y))) [(4, .int (iI 1)), (5, .int (iI (k + 1))), (0, .ref b), (1, .ref (ap 0)), (2, .ref (aq 0)), (3, .ref (ar 0))] 149 []) : q_J D κ 8 cl sl (zB cs ap rQp rMp Ip Ap Fp ++ (zB cs aq rQq rMq Iq Aq Fq ++ (zB cs ar rQr rMr Ir Ar Fr ++ Y))) [(4, .int (iI 1)), (7, .int (iI y)), (5, .int (iI k)), (0, .ref b), (1, .ref (ap 0)), (2, .ref (aq 0)), (3, .ref (ar 0))] 248 [] := by
  refine j_iload (pc := 248) 0 ok dL_law_248 rfl ?_
  refine j_eq_f (pc := 250) 347 (by decide) (by decide) ok dL_law_250 (by decide) ?_
  refine j_iload (pc := 253) 2 ok dL_law_253 rfl ?_
  refine j_iconst (pc := 255) ok dL_law_255 ?_
  refine j_irem (ρ := Unit) (r := ()) (B := some ()) (pc := 256) ok dL_law_256 (by decide) (by decide) (z_gR (by omega)) (fun _ => ?_)
  refine j_iconst (pc := 257) ok dL_law_257 ?_
  by_cases h9 : k.tmod 5 = 4
  · refine j_icmp_ne (ρ := Unit) (r := ()) (A := none) (B := some ()) (pc := 258) 343 ok dL_law_258 (by decide) (z_eq_t (by omega)) (fun h => by cases h) (fun _ => ?_)
    refine j_aload_n (pc := 261) 4 ok dL_law_261 rfl rfl ?_
    refine j_aload_n (pc := 262) 6 ok dL_law_262 rfl rfl ?_
    refine j_perm (zpm_t _ _ _ _) ?_
    refine lt_read (pc := 263) hp hr ok ky ⟨by omega, by omega⟩ (Nat.le_of_ble_eq_true rfl) dL_law_263 (fun Ip Ap Fp Ir Ar Fr hp hr => ?_)
    refine j_perm (zpm_t _ _ _ _) ?_
    refine j_eq_f (pc := 266) 347 (by decide) (by decide) ok dL_law_266 (by decide) ?_
    refine j_aload_n (pc := 269) 4 ok dL_law_269 rfl rfl ?_
    refine j_iconst (pc := 270) ok dL_law_270 ?_
    obtain ⟨FA, FS, FB, hI, hC, hC2⟩ := zF_two hp.1 hq.1
    obtain ⟨Lc, hK, hc, hc2⟩ := zc_two hp.2.2.2.2 hq.2.2.2.2
    have h60 := hI.2.1
    have hp3 : zE3 FA FS FB Lc (K 1) (fun j => P (184 + j)) Ip Ap Fp := ⟨hC, hc, ⟨acts, Dd, hp.2.1⟩, hp.2.2.2.1⟩
    have hq3 : zE3 FA FS FB Lc (K 1) (fun j => P (184 + j)) Iq Aq Fq := ⟨hC2, hc2, ⟨acts, Dd, hq.2.1⟩, hq.2.2.2.1⟩
    clear hp hq hC hC2 hc hc2
    refine lt_save (pc := 271) hI hp3 ok ky ⟨by omega, by omega⟩ (Nat.le_of_ble_eq_true rfl) dL_law_271 (fun Ip Ap Fp hp => ?_)
    refine j_aload_n (pc := 274) 5 ok dL_law_274 rfl rfl ?_
    refine j_iconst (pc := 275) ok dL_law_275 ?_
    refine j_perm (zpm_s _ _ _) ?_
    refine lt_save (pc := 276) hI hq3 ok ky ⟨by omega, by omega⟩ (Nat.le_of_ble_eq_true rfl) dL_law_276 (fun Iq Aq Fq hq => ?_)
    refine j_perm (zpm_s _ _ _) ?_
    refine j_icmp_nsame (pc := 279) 347 rfl ok dL_law_279 (by decide) ?_
    refine j_aload_n (pc := 282) 4 ok dL_law_282 rfl rfl ?_
    refine j_iload (pc := 283) 1 ok dL_law_283 rfl ?_
    refine lt_scripts (pc := 285) hy hI hp ok ky ⟨by omega, by omega⟩ (Nat.le_of_ble_eq_true rfl) dL_law_285 (fun Ip Ap Fp hp => ?_)
    refine j_eq_f (pc := 288) 347 (by decide) (by decide) ok dL_law_288 (by decide) ?_
    refine j_aload_n (pc := 291) 4 ok dL_law_291 rfl rfl ?_
    refine j_aload_n (pc := 292) 5 ok dL_law_292 rfl rfl ?_
    refine j_iload (pc := 293) 1 ok dL_law_293 rfl ?_
    refine lt_back (pc := 295) hy hI hp hq.1.1 ok ky ⟨by omega, by omega⟩ (Nat.le_of_ble_eq_true rfl) dL_law_295 (fun Ip Ap Fp hb => ?_)
    refine j_eq_f (pc := 298) 347 (by decide) (by decide) ok dL_law_298 (by decide) ?_
    refine j_aload_n (pc := 301) 4 ok dL_law_301 rfl rfl ?_
    refine j_iconst (pc := 302) ok dL_law_302 ?_
    obtain ⟨HA, HS, HB, hJ, hp⟩ := hb
    refine lt_restore (pc := 303) hJ hI hp ok ky ⟨by omega, by omega⟩ (Nat.le_of_ble_eq_true rfl) dL_law_303 (fun Ip Ap Fp hp hp0 => ?_)
    refine j_if_lt (ρ := Unit) (r := ()) (A := none) (B := some ()) (pc := 306) 347 ok dL_law_306 (by decide) (z_lt_f (by omega)) (fun h => by cases h) (fun _ => ?_)
    refine j_aload_n (pc := 309) 5 ok dL_law_309 rfl rfl ?_
    refine j_iconst (pc := 310) ok dL_law_310 ?_
    refine j_perm (zpm_s _ _ _) ?_
    refine lt_restore (pc := 311) hI hI hq ok ky ⟨by omega, by omega⟩ (Nat.le_of_ble_eq_true rfl) dL_law_311 (fun Iq Aq Fq hq hq0 => ?_)
    refine j_perm (zpm_s _ _ _) ?_
    refine j_if_lt (ρ := Unit) (r := ()) (A := none) (B := some ()) (pc := 314) 347 ok dL_law_314 (by decide) (z_lt_f (by omega)) (fun h => by cases h) (fun _ => ?_)
    refine j_aload_n (pc := 317) 4 ok dL_law_317 rfl rfl ?_
    refine lt_undo0 (pc := 318) hp0 ok ky ⟨by omega, by omega⟩ (Nat.le_of_ble_eq_true rfl) dL_law_318 ?_
    refine j_sipush (pc := 321) ok dL_law_321 (by decide) ?_
    refine j_icmp_nsame (pc := 324) 347 rfl ok dL_law_324 (by decide) ?_
    refine j_aload_n (pc := 327) 4 ok dL_law_327 rfl rfl ?_
    refine j_aload_n (pc := 328) 5 ok dL_law_328 rfl rfl ?_
    refine lt_equal (pc := 329) hI hp.1.1 hq.1.1 ok ky ⟨by omega, by omega⟩ (Nat.le_of_ble_eq_true rfl) dL_law_329 ?_
    refine j_eq_f (pc := 332) 347 (by decide) (by decide) ok dL_law_332 (by decide) ?_
    refine j_aload_n (pc := 335) 4 ok dL_law_335 rfl rfl ?_
    refine j_aload_n (pc := 336) 5 ok dL_law_336 rfl rfl ?_
    refine lt_clipped (pc := 337) hI hK rfl hp hq hp0 hq0 ok ky ⟨by omega, by omega⟩ (Nat.le_of_ble_eq_true rfl) dL_law_337 (fun Ip Ap Fp Iq Aq Fq hp hq hp0 hq0 => ?_)
    refine j_eq_f (pc := 340) 347 (by decide) (by decide) ok dL_law_340 (by decide) ?_
    refine j_iconst (pc := 343) ok dL_law_343 ?_
    refine j_goto (pc := 344) 348 ok dL_law_344 (by decide) ?_
    refine j_istore (pc := 348) (lv' := [(4, .int (iI 1)), (7, .int (iI y)), (5, .int (iI k)), (0, .ref b), (1, .ref (ap 0)), (2, .ref (aq 0)), (3, .ref (ar 0))]) ok dL_law_348 (by decide) rfl ?_
    refine j_iinc (pc := 350) (lv' := [(5, .int (iI (k + 1))), (4, .int (iI 1)), (7, .int (iI y)), (0, .ref b), (1, .ref (ap 0)), (2, .ref (aq 0)), (3, .ref (ar 0))]) 2 ok dL_law_350 rfl (by decide) rfl ?_
    refine j_goto (pc := 353) 149 ok dL_law_353 (by decide) ?_
    have hKp : zK (if FA ++ (FS ++ FB) = [] then Lc else FA ++ (FS ++ FB)) := by
      split
      · exact hK
      · exact ⟨hI.bal, hI.2.1, hI.2.2⟩
    obtain ⟨R2, D2, K2, P2, Rc2, hp, hq⟩ := zE_back hI hKp hp hq hp0 hq0
    refine j_lv [1, 0, 3, 4, 5, 6] rfl ?_
    refine j_wide (cl2 := cl + 160) (sl2 := sl + 900) (by omega) (by omega) ?_
    exact kk _ _ _ _ _ _ _ _ _ _ _ _ _ _ _ hp hq hr
  · refine j_icmp_ne (ρ := Unit) (r := ()) (A := some ()) (B := none) (pc := 258) 343 ok dL_law_258 (by decide) (z_eq_f (by have := ztm9 (k := 5) hk.1 (by omega); omega)) (fun _ => ?_) (fun h => by cases h)
    refine j_iconst (pc := 343) ok dL_law_343 ?_
    refine j_goto (pc := 344) 348 ok dL_law_344 (by decide) ?_
    refine j_istore (pc := 348) (lv' := [(4, .int (iI 1)), (7, .int (iI y)), (5, .int (iI k)), (0, .ref b), (1, .ref (ap 0)), (2, .ref (aq 0)), (3, .ref (ar 0))]) ok dL_law_348 (by decide) rfl ?_
    refine j_iinc (pc := 350) (lv' := [(5, .int (iI (k + 1))), (4, .int (iI 1)), (7, .int (iI y)), (0, .ref b), (1, .ref (ap 0)), (2, .ref (aq 0)), (3, .ref (ar 0))]) 2 ok dL_law_350 rfl (by decide) rfl ?_
    refine j_goto (pc := 353) 149 ok dL_law_353 (by decide) ?_
    refine j_lv [1, 0, 3, 4, 5, 6] rfl ?_
    refine j_wide (cl2 := cl + 160) (sl2 := sl + 900) (by omega) (by omega) ?_
    exact kk _ _ _ _ _ _ _ _ _ _ _ _ _ _ _ hp hq hr
set_option maxRecDepth 100000 in
set_option maxHeartbeats 4000000 in
theorem lw_loop (ok : q_ok D cs κ cL_law 8 RL room_1) (ky : q_ky κ) (sc : q_sc κ b L xs) (fin : ∀ (cl sl : Nat) (ws : va_W) (lv : List (Nat × Value)), cl ≤ 600130 → sl ≤ 7301080 → q_J D κ 8 cl sl ws lv 358 [.int (iI 1)]) : ∀ (m : Nat) (k : Int) (cl sl : Nat) (R Dd K P Rc : Nat → Int) (acts : Int) (Ip Iq Ir : Nat → Int) (Ap Fp Aq Fq Ar Fr : Nat → Nat → Int), 0 ≤ k → k + m = 30 → cl + 260 * m ≤ 600130 → sl + 1600 * m ≤ 7301080 → zE1 R Dd K P Rc acts Ip Ap Fp → zE1 R Dd K P Rc acts Iq Aq Fq → 0 ≤ Ir 17 ∧ Ir 17 ≤ 120 → q_J D κ 8 cl sl (zB cs ap rQp rMp Ip Ap Fp ++ (zB cs aq rQq rMq Iq Aq Fq ++ (zB cs ar rQr rMr Ir Ar Fr ++ Y))) [(4, .int (iI 1)), (5, .int (iI k)), (0, .ref b), (1, .ref (ap 0)), (2, .ref (aq 0)), (3, .ref (ar 0))] 149 []
  | 0, k, cl, sl, R, Dd, K, P, Rc, acts, Ip, Iq, Ir, Ap, Fp, Aq, Fq, Ar, Fr, hk, hm, hcl, hsl, hp, hq, hr => by
    refine j_iload (pc := 149) 1 ok dL_law_149 rfl ?_
    refine j_bipush (pc := 151) ok dL_law_151 (by decide) ?_
    refine j_icmp_ge (ρ := Unit) (r := ()) (A := some ()) (B := none) (a := k) (b := 30) (pc := 153) 356 ok dL_law_153 (by decide) (z_lt_f (by omega)) (fun _ => ?_) (fun h => by cases h)
    refine j_iload (pc := 356) 0 ok dL_law_356 rfl ?_
    exact fin _ _ _ _ (by omega) (by omega)
  | m + 1, k, cl, sl, R, Dd, K, P, Rc, acts, Ip, Iq, Ir, Ap, Fp, Aq, Fq, Ar, Fr, hk, hm, hcl, hsl, hp, hq, hr => by
    refine lw_rnd1 ok ky sc (by omega) ⟨by omega, by omega⟩ hp hq (fun R2 D2 K2 P2 Rc2 acts2 Ip2 Iq2 Ap2 Fp2 Aq2 Fq2 y hy hp hq => ?_)
    refine lw_rnd2 ok ky (by omega) hy ⟨by omega, by omega⟩ hp hq hr (fun R3 D3 K3 P3 Rc3 acts3 Ip3 Iq3 Ir3 Ap3 Fp3 Aq3 Fq3 Ar3 Fr3 hp hq hr => ?_)
    exact lw_loop ok ky sc fin m (k + 1) _ _ _ _ _ _ _ _ _ _ _ _ _ _ _ _ _ (by omega) (by omega) (by omega) (by omega) hp hq hr
set_option maxRecDepth 100000 in
set_option maxHeartbeats 4000000 in
theorem lw_first (ok : q_ok D cs κ cL_law 8 RL room_1) (ky : q_ky κ) (hcl : cl + 120 ≤ 600130 ∧ sl + 700 ≤ 7301080) (hp : zE0 Ip) (hq : zE0 Iq) (hr : zE0 Ir) (kk : ∀ (R Dd K P Rc : Nat → Int) (Ip Iq Ir : Nat → Int) (Ap Fp Aq Fq Ar Fr : Nat → Nat → Int), zE1 R Dd K P Rc 0 Ip Ap Fp → zE1 R Dd K P Rc 0 Iq Aq Fq → 0 ≤ Ir 17 ∧ Ir 17 ≤ 120 → q_J D κ 8 (cl + 120) (sl + 700) (zB cs ap rQp rMp Ip Ap Fp ++ (zB cs aq rQq rMq Iq Aq Fq ++ (zB cs ar rQr rMr Ir Ar Fr ++ Y))) [(4, .int (iI 1)), (5, .int (iI 0)), (0, .ref b), (1, .ref (ap 0)), (2, .ref (aq 0)), (3, .ref (ar 0))] 149 []) : q_J D κ 8 cl sl (zB cs ap rQp rMp Ip Ap Fp ++ (zB cs aq rQq rMq Iq Aq Fq ++ (zB cs ar rQr rMr Ir Ar Fr ++ Y))) [(3, .ref (ar 0)), (2, .ref (aq 0)), (1, .ref (ap 0)), (0, .ref b)] 24 [] := by
  refine j_aload_n (pc := 24) 2 ok dL_law_24 rfl rfl ?_
  refine lt_err (pc := 25) hp ok ky ⟨by omega, by omega⟩ (Nat.le_of_ble_eq_true rfl) dL_law_25 (fun Ip Ap Fp hp => ?_)
  refine j_bipush (pc := 28) ok dL_law_28 (by decide) ?_
  refine j_icmp_nsame (pc := 30) 143 rfl ok dL_law_30 (by decide) ?_
  refine j_aload_n (pc := 33) 2 ok dL_law_33 rfl rfl ?_
  refine lt_load (pc := 34) hp ok ky ⟨by omega, by omega⟩ (Nat.le_of_ble_eq_true rfl) dL_law_34 (fun Ip Ap Fp hp => ?_)
  refine j_ne_f (pc := 37) 143 rfl ok dL_law_37 (by decide) ?_
  refine j_aload_n (pc := 40) 2 ok dL_law_40 rfl rfl ?_
  refine lt_undo0 (pc := 41) hp.2.2.2.2.2.2.1 ok ky ⟨by omega, by omega⟩ (Nat.le_of_ble_eq_true rfl) dL_law_41 ?_
  refine j_sipush (pc := 44) ok dL_law_44 (by decide) ?_
  refine j_icmp_nsame (pc := 47) 143 rfl ok dL_law_47 (by decide) ?_
  refine j_aload_n (pc := 50) 2 ok dL_law_50 rfl rfl ?_
  refine lt_grow0 (pc := 51) hp ok ky ⟨by omega, by omega⟩ (Nat.le_of_ble_eq_true rfl) dL_law_51 ?_
  refine j_sipush (pc := 54) ok dL_law_54 (by decide) ?_
  refine j_icmp_nsame (pc := 57) 143 rfl ok dL_law_57 (by decide) ?_
  refine j_aload_n (pc := 60) 2 ok dL_law_60 rfl rfl ?_
  refine j_iconst (pc := 61) ok dL_law_61 ?_
  refine lt_ext0 (pc := 62) hp ok ky ⟨by omega, by omega⟩ (Nat.le_of_ble_eq_true rfl) dL_law_62 ?_
  refine j_sipush (pc := 65) ok dL_law_65 (by decide) ?_
  refine j_icmp_nsame (pc := 68) 143 rfl ok dL_law_68 (by decide) ?_
  refine j_aload_n (pc := 71) 2 ok dL_law_71 rfl rfl ?_
  refine lt_bk0 (pc := 72) hp ok ky ⟨by omega, by omega⟩ (Nat.le_of_ble_eq_true rfl) dL_law_72 ?_
  refine j_sipush (pc := 75) ok dL_law_75 (by decide) ?_
  refine j_icmp_nsame (pc := 78) 143 rfl ok dL_law_78 (by decide) ?_
  refine j_aload_n (pc := 81) 2 ok dL_law_81 rfl rfl ?_
  refine j_iconst (pc := 82) ok dL_law_82 ?_
  refine j_iconst (pc := 83) ok dL_law_83 ?_
  refine lt_drawn0 (pc := 84) hp ok ky ⟨by omega, by omega⟩ (Nat.le_of_ble_eq_true rfl) dL_law_84 (fun Ip Ap Fp hp => ?_)
  refine j_bipush (pc := 87) ok dL_law_87 (by decide) ?_
  refine j_icmp_nsame (pc := 89) 143 rfl ok dL_law_89 (by decide) ?_
  refine j_aload_n (pc := 92) 2 ok dL_law_92 rfl rfl ?_
  refine j_iconst (pc := 93) ok dL_law_93 ?_
  refine lt_vert0 (pc := 94) hp ok ky ⟨by omega, by omega⟩ (Nat.le_of_ble_eq_true rfl) dL_law_94 ?_
  refine j_bipush (pc := 97) ok dL_law_97 (by decide) ?_
  refine j_icmp_nsame (pc := 99) 143 rfl ok dL_law_99 (by decide) ?_
  refine j_aload_n (pc := 102) 1 ok dL_law_102 rfl rfl ?_
  obtain ⟨R, Dd, K, P, Rc, h1⟩ := zE_first
  have hp := h1 _ Ap Fp hp
  have hq := h1 _ Aq Fq hq
  have hr : 0 ≤ Ir 17 ∧ Ir 17 ≤ 120 := by have := hr.2.2.2.2.2.2.2.2; omega
  refine j_perm (zpm_s _ _ _) ?_
  refine lt_refuses (pc := 103) hq ok ky ⟨by omega, by omega⟩ (Nat.le_of_ble_eq_true rfl) dL_law_103 (fun Iq Aq Fq hq => ?_)
  refine j_perm (zpm_s _ _ _) ?_
  refine j_eq_f (pc := 106) 143 (by decide) (by decide) ok dL_law_106 (by decide) ?_
  refine j_aload_n (pc := 109) 2 ok dL_law_109 rfl rfl ?_
  refine j_aload_n (pc := 110) 1 ok dL_law_110 rfl rfl ?_
  refine lt_alike (pc := 111) hp hq ok ky ⟨by omega, by omega⟩ (Nat.le_of_ble_eq_true rfl) dL_law_111 (fun Ip Ap Fp Iq Aq Fq hp hq => ?_)
  refine j_eq_f (pc := 114) 143 (by decide) (by decide) ok dL_law_114 (by decide) ?_
  refine j_aload_n (pc := 117) 2 ok dL_law_117 rfl rfl ?_
  refine lt_places (pc := 118) hp ok ky ⟨by omega, by omega⟩ (Nat.le_of_ble_eq_true rfl) dL_law_118 ?_
  refine j_eq_f (pc := 121) 143 (by decide) (by decide) ok dL_law_121 (by decide) ?_
  refine j_aload_n (pc := 124) 2 ok dL_law_124 rfl rfl ?_
  refine lt_drawings (pc := 125) hp ok ky ⟨by omega, by omega⟩ (Nat.le_of_ble_eq_true rfl) dL_law_125 (fun Ip Ap Fp hp => ?_)
  refine j_eq_f (pc := 128) 143 (by decide) (by decide) ok dL_law_128 (by decide) ?_
  refine j_aload_n (pc := 131) 2 ok dL_law_131 rfl rfl ?_
  refine j_aload_n (pc := 132) 0 ok dL_law_132 rfl rfl ?_
  refine j_perm (zpm_t _ _ _ _) ?_
  refine lt_read (pc := 133) hp hr ok ky ⟨by omega, by omega⟩ (Nat.le_of_ble_eq_true rfl) dL_law_133 (fun Ip Ap Fp Ir Ar Fr hp hr => ?_)
  refine j_perm (zpm_t _ _ _ _) ?_
  refine j_eq_f (pc := 136) 143 (by decide) (by decide) ok dL_law_136 (by decide) ?_
  refine j_iconst (pc := 139) ok dL_law_139 ?_
  refine j_goto (pc := 140) 144 ok dL_law_140 (by decide) ?_
  refine j_istore (pc := 144) (lv' := [(4, .int (iI 1)), (3, .ref (ar 0)), (2, .ref (aq 0)), (1, .ref (ap 0)), (0, .ref b)]) ok dL_law_144 (by decide) rfl ?_
  refine j_iconst (pc := 146) ok dL_law_146 ?_
  refine j_istore (pc := 147) (lv' := [(5, .int (iI 0)), (4, .int (iI 1)), (3, .ref (ar 0)), (2, .ref (aq 0)), (1, .ref (ap 0)), (0, .ref b)]) ok dL_law_147 (by decide) rfl ?_
  refine j_lv [1, 0, 5, 4, 3, 2] rfl ?_
  refine j_wide (cl2 := cl + 120) (sl2 := sl + 700) (by omega) (by omega) ?_
  exact kk _ _ _ _ _ _ _ _ _ _ _ _ _ _ hp hq hr
end QLB
