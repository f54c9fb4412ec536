def k_L_law_2228 (xs : Nat → Int32) (Ln : Nat) (rec23 : Hp → Int32 → Option Int32) (A : Hp) (x1 : Nat) (x2 : Nat) (x3 : Nat) (x4 : Int32)  : Option Int32 := rec23 A (x4 + (4 : Int32))
set_option maxRecDepth 100000 in
theorem s_L_law_2228 {κ : KT} {xs : Nat → Int32} {Ln : Nat} {rec23 : Hp → Int32 → Option Int32} {A : Hp} {x1 : Nat} {x2 : Nat} {x3 : Nat} {x4 : Int32}  {c n fu : Nat} (K : Cx κ cL_law 8 RL 14 540 601024 7293034) (E : EdW κ) (hX : SX κ Ln xs) (hc9 : c + fu * 423 + 0 ≤ 217462) (hn9 : n + fu * 8600 + 0 ≤ 4447408) (hr23 : ∀ (c n : Nat) (A : Hp) (x4 : Int32), c + fu * 423 ≤ 217462 → n + fu * 8600 ≤ 4447408 → rec23 A x4 = some 1 → Vw κ A c n 23 [(0, .inr (.inr 92)), (1, .inr (.inr x1)), (2, .inr (.inr x2)), (3, .inr (.inr x3)), (4, .inl x4)] []) (h : k_L_law_2228 xs Ln rec23 A x1 x2 x3 x4  = some 1) : Vw κ A c n 2228 [(0, .inr (.inr 92)), (1, .inr (.inr x1)), (2, .inr (.inr x2)), (3, .inr (.inr x3)), (4, .inl x4)] [] := by
  unfold k_L_law_2228 at h
  refine Vw.iinc (pc := 2228) (x := x4) (v := (4 : Int32)) K dL_law_2228 rfl (by decide) (by decide) ?_
  refine Vw.goto (pc := 2231) (tgt := 23) K dL_law_2231 (by decide) ?_
  exact Vw.loc rfl (hr23 _ _ _ _ (by omega) (by omega) h)
def k_L_law_212 (xs : Nat → Int32) (Ln : Nat) (rec23 : Hp → Int32 → Option Int32) (A : Hp) (x1 : Nat) (x2 : Nat) (x3 : Nat) (x4 : Int32)  : Option Int32 := if wix (x4 + (1 : Int32)) Ln then ((f_L_type A x1 (xs (x4 + (1 : Int32)).toNatClampNeg) x3).bind fun p3 => if wix (x4 + (1 : Int32)) Ln then if (hsh p3.2 x2).1 = 8 then ((f_X9_type p3.2 x2 (xs (x4 + (1 : Int32)).toNatClampNeg)).bind fun p7 => if (hsh p7.2 x2).1 = 8 then ((f_X9_thrown p7.2 x2).bind fun v10 => (if v10 = p3.1 then (if p3.1 = (0 : Int32) then if (hsh p7.2 x3).1 = 11 then if wix (0 : Int32) (hsh p7.2 x3).2 then (if (hgL p7.2 1035 x3 (0 : Int32).toNatClampNeg) = p7.1.toInt64 then k_L_law_2228 xs Ln rec23 p7.2 x1 x2 x3 x4 else some (0 : Int32)) else none else none else k_L_law_2228 xs Ln rec23 p7.2 x1 x2 x3 x4) else some (0 : Int32))) else none) else none else none) else none
set_option maxRecDepth 100000 in
theorem s_L_law_212 {κ : KT} {xs : Nat → Int32} {Ln : Nat} {rec23 : Hp → Int32 → Option Int32} {A : Hp} {x1 : Nat} {x2 : Nat} {x3 : Nat} {x4 : Int32}  {c n fu : Nat} (K : Cx κ cL_law 8 RL 14 540 601024 7293034) (E : EdW κ) (hX : SX κ Ln xs) (hc9 : c + fu * 423 + 1 ≤ 217462) (hn9 : n + fu * 8600 + 6 ≤ 4447408) (hr23 : ∀ (c n : Nat) (A : Hp) (x4 : Int32), c + fu * 423 ≤ 217462 → n + fu * 8600 ≤ 4447408 → rec23 A x4 = some 1 → Vw κ A c n 23 [(0, .inr (.inr 92)), (1, .inr (.inr x1)), (2, .inr (.inr x2)), (3, .inr (.inr x3)), (4, .inl x4)] []) (h : k_L_law_212 xs Ln rec23 A x1 x2 x3 x4  = some 1) : Vw κ A c n 212 [(0, .inr (.inr 92)), (1, .inr (.inr x1)), (2, .inr (.inr x2)), (3, .inr (.inr x3)), (4, .inl x4)] [] := by
  unfold k_L_law_212 at h
  refine Vw.aload_n (pc := 212) (x := x1) K dL_law_212 rfl ?_
  refine Vw.aload_n (pc := 213) (x := 92) K dL_law_213 rfl ?_
  refine Vw.iload (pc := 214) (x := x4) K dL_law_214 rfl ?_
  refine Vw.iconst (pc := 216) (v := (1 : Int32)) K (by decide) dL_law_216 ?_
  refine Vw.iadd (pc := 217) K dL_law_217 ?_
  obtain ⟨g1, h⟩ := wgd h
  refine Vw.sld (pc := 218) K hX g1 dL_law_218 ?_
  refine Vw.aload_n (pc := 219) (x := x3) K dL_law_219 rfl ?_
  obtain ⟨p3, e2, h⟩ := wbd h
  refine Vw.cH1 (pc := 220) (v := .inl p3.1) (c' := c + 1) (n' := n + 6) K (s_L_type K.tr e2) cal_L_type u_3_26 rfl ⟨by decide, by decide⟩ ⟨by omega, by omega⟩ rfl (Nat.le_of_ble_eq_true rfl) dL_law_220 rfl rfl ?_
  refine Vw.istore (pc := 223) K dL_law_223 (by decide) ?_
  refine Vw.aload_n (pc := 225) (x := x2) K dL_law_225 rfl ?_
  refine Vw.aload_n (pc := 226) (x := 92) K dL_law_226 rfl ?_
  refine Vw.iload (pc := 227) (x := x4) K dL_law_227 rfl ?_
  refine Vw.iconst (pc := 229) (v := (1 : Int32)) K (by decide) dL_law_229 ?_
  refine Vw.iadd (pc := 230) K dL_law_230 ?_
  obtain ⟨g4, h⟩ := wgd h
  refine Vw.sld (pc := 231) K hX g4 dL_law_231 ?_
  obtain ⟨g5, h⟩ := wgd h
  obtain ⟨p7, e6, h⟩ := wbd h
  refine Vw.cV1 (pc := 232) (v := .inl p7.1) (c' := c + 1) (n' := n + 6) K (s_X9_type K.tr e6) cal_X9_type cls7 u_6_222 g5 rfl ⟨by decide, by decide⟩ ⟨by omega, by omega⟩ rfl (Nat.le_of_ble_eq_true rfl) dL_law_232 rfl rfl ?_
  refine Vw.istore (pc := 235) K dL_law_235 (by decide) ?_
  refine Vw.aload_n (pc := 237) (x := x2) K dL_law_237 rfl ?_
  obtain ⟨g8, h⟩ := wgd h
  obtain ⟨v10, e9, h⟩ := wbd h
  refine Vw.cV1 (pc := 238) (v := .inl v10) (c' := c + 1) (n' := n + 6) K (s_X9_thrown K.tr e9) cal_X9_thrown cls7 u_6_134 g8 rfl ⟨by decide, by decide⟩ ⟨by omega, by omega⟩ rfl (Nat.le_of_ble_eq_true rfl) dL_law_238 rfl rfl ?_
  refine Vw.iload (pc := 241) (x := p3.1) K dL_law_241 rfl ?_
  refine Vw.icmp_eq (pc := 243) (tgt := 248) K dL_law_243 (by decide) (fun c11 => ?_) (fun c11 => ?_)
  · have h := wpos c11 h
    refine Vw.iload (pc := 248) (x := p3.1) K dL_law_248 rfl ?_
    refine Vw.if_ne (pc := 250) (tgt := 265) K dL_law_250 (by decide) (fun c12 => ?_) (fun c12 => ?_)
    · have h := wneg c12 h
      refine Vw.goto (pc := 265) (tgt := 2228) K dL_law_265 (by decide) ?_
      exact Vw.loc rfl (s_L_law_2228 K E hX (fu := fu) (by omega) (by omega) hr23 h)
    · have h := wpos c12 h
      refine Vw.aload_n (pc := 253) (x := x3) K dL_law_253 rfl ?_
      refine Vw.iconst (pc := 254) (v := (0 : Int32)) K (by decide) dL_law_254 ?_
      obtain ⟨g13, h⟩ := wgd h
      obtain ⟨g14, h⟩ := wgd h
      refine Vw.laload (pc := 255) K g13 g14 dL_law_255 ?_
      refine Vw.iload (pc := 256) (x := p7.1) K dL_law_256 rfl ?_
      refine Vw.i2l (pc := 258) K dL_law_258 ?_
      refine Vw.lcmp_eq (pc := 259) (tgt := 265) K dL_law_259 dL_law_260 (by decide) (fun c15 => ?_) (fun c15 => ?_)
      · have h := wpos c15 h
        refine Vw.goto (pc := 265) (tgt := 2228) K dL_law_265 (by decide) ?_
        exact Vw.loc rfl (s_L_law_2228 K E hX (fu := fu) (by omega) (by omega) hr23 h)
      · have h := wneg c15 h
        refine Vw.iconst (pc := 263) (v := (0 : Int32)) K (by decide) dL_law_263 ?_
        exact Vw.lawret (pc := 264) K E h (by omega) (by omega) dL_law_264
  · have h := wneg c11 h
    refine Vw.iconst (pc := 246) (v := (0 : Int32)) K (by decide) dL_law_246 ?_
    exact Vw.lawret (pc := 247) K E h (by omega) (by omega) dL_law_247
def k_L_law_268 (xs : Nat → Int32) (Ln : Nat) (rec23 : Hp → Int32 → Option Int32) (A : Hp) (x1 : Nat) (x2 : Nat) (x3 : Nat) (x4 : Int32)  : Option Int32 := if (hsh A x1).1 = 7 then ((f_X8_clearText A x1).bind fun p18 => if (hsh p18.2 x2).1 = 8 then ((f_X9_clearText p18.2 x2).bind fun p21 => (if p18.1 = p21.1 then k_L_law_2228 xs Ln rec23 p21.2 x1 x2 x3 x4 else some (0 : Int32))) else none) else none
set_option maxRecDepth 100000 in
theorem s_L_law_268 {κ : KT} {xs : Nat → Int32} {Ln : Nat} {rec23 : Hp → Int32 → Option Int32} {A : Hp} {x1 : Nat} {x2 : Nat} {x3 : Nat} {x4 : Int32}  {c n fu : Nat} (K : Cx κ cL_law 8 RL 14 540 601024 7293034) (E : EdW κ) (hX : SX κ Ln xs) (hc9 : c + fu * 423 + 0 ≤ 217462) (hn9 : n + fu * 8600 + 0 ≤ 4447408) (hr23 : ∀ (c n : Nat) (A : Hp) (x4 : Int32), c + fu * 423 ≤ 217462 → n + fu * 8600 ≤ 4447408 → rec23 A x4 = some 1 → Vw κ A c n 23 [(0, .inr (.inr 92)), (1, .inr (.inr x1)), (2, .inr (.inr x2)), (3, .inr (.inr x3)), (4, .inl x4)] []) (h : k_L_law_268 xs Ln rec23 A x1 x2 x3 x4  = some 1) : Vw κ A c n 268 [(0, .inr (.inr 92)), (1, .inr (.inr x1)), (2, .inr (.inr x2)), (3, .inr (.inr x3)), (4, .inl x4)] [] := by
  unfold k_L_law_268 at h
  refine Vw.aload_n (pc := 268) (x := x1) K dL_law_268 rfl ?_
  obtain ⟨g16, h⟩ := wgd h
  obtain ⟨p18, e17, h⟩ := wbd h
  refine Vw.cV1 (pc := 269) (v := .inl p18.1) (c' := c) (n' := n) K (s_X8_clearText K.tr e17) cal_X8_clearText cls6 u_2_70 g16 rfl ⟨by decide, by decide⟩ ⟨by omega, by omega⟩ rfl (Nat.le_of_ble_eq_true rfl) dL_law_269 rfl rfl ?_
  refine Vw.aload_n (pc := 272) (x := x2) K dL_law_272 rfl ?_
  obtain ⟨g19, h⟩ := wgd h
  obtain ⟨p21, e20, h⟩ := wbd h
  refine Vw.cV1 (pc := 273) (v := .inl p21.1) (c' := c) (n' := n) K (s_X9_clearText K.tr e20) cal_X9_clearText cls7 u_6_228 g19 rfl ⟨by decide, by decide⟩ ⟨by omega, by omega⟩ rfl (Nat.le_of_ble_eq_true rfl) dL_law_273 rfl rfl ?_
  refine Vw.icmp_eq (pc := 276) (tgt := 2228) K dL_law_276 (by decide) (fun c22 => ?_) (fun c22 => ?_)
  · have h := wpos c22 h
    exact Vw.loc rfl (s_L_law_2228 K E hX (fu := fu) (by omega) (by omega) hr23 h)
  · have h := wneg c22 h
    refine Vw.iconst (pc := 279) (v := (0 : Int32)) K (by decide) dL_law_279 ?_
    exact Vw.lawret (pc := 280) K E h (by omega) (by omega) dL_law_280
def k_L_law_281 (xs : Nat → Int32) (Ln : Nat) (rec23 : Hp → Int32 → Option Int32) (A : Hp) (x1 : Nat) (x2 : Nat) (x3 : Nat) (x4 : Int32)  : Option Int32 := if (hsh A x1).1 = 7 then ((f_X8_openPage A x1).bind fun p25 => if (hsh p25.2 x2).1 = 8 then ((f_X9_openPage p25.2 x2).bind fun p28 => (if p25.1 = p28.1 then k_L_law_2228 xs Ln rec23 p28.2 x1 x2 x3 x4 else some (0 : Int32))) else none) else none
set_option maxRecDepth 100000 in
theorem s_L_law_281 {κ : KT} {xs : Nat → Int32} {Ln : Nat} {rec23 : Hp → Int32 → Option Int32} {A : Hp} {x1 : Nat} {x2 : Nat} {x3 : Nat} {x4 : Int32}  {c n fu : Nat} (K : Cx κ cL_law 8 RL 14 540 601024 7293034) (E : EdW κ) (hX : SX κ Ln xs) (hc9 : c + fu * 423 + 0 ≤ 217462) (hn9 : n + fu * 8600 + 0 ≤ 4447408) (hr23 : ∀ (c n : Nat) (A : Hp) (x4 : Int32), c + fu * 423 ≤ 217462 → n + fu * 8600 ≤ 4447408 → rec23 A x4 = some 1 → Vw κ A c n 23 [(0, .inr (.inr 92)), (1, .inr (.inr x1)), (2, .inr (.inr x2)), (3, .inr (.inr x3)), (4, .inl x4)] []) (h : k_L_law_281 xs Ln rec23 A x1 x2 x3 x4  = some 1) : Vw κ A c n 281 [(0, .inr (.inr 92)), (1, .inr (.inr x1)), (2, .inr (.inr x2)), (3, .inr (.inr x3)), (4, .inl x4)] [] := by
  unfold k_L_law_281 at h
  refine Vw.aload_n (pc := 281) (x := x1) K dL_law_281 rfl ?_
  obtain ⟨g23, h⟩ := wgd h
  obtain ⟨p25, e24, h⟩ := wbd h
  refine Vw.cV1 (pc := 282) (v := .inl p25.1) (c' := c) (n' := n) K (s_X8_openPage K.tr e24) cal_X8_openPage cls6 u_2_78 g23 rfl ⟨by decide, by decide⟩ ⟨by omega, by omega⟩ rfl (Nat.le_of_ble_eq_true rfl) dL_law_282 rfl rfl ?_
  refine Vw.aload_n (pc := 285) (x := x2) K dL_law_285 rfl ?_
  obtain ⟨g26, h⟩ := wgd h
  obtain ⟨p28, e27, h⟩ := wbd h
  refine Vw.cV1 (pc := 286) (v := .inl p28.1) (c' := c) (n' := n) K (s_X9_openPage K.tr e27) cal_X9_openPage cls7 u_6_138 g26 rfl ⟨by decide, by decide⟩ ⟨by omega, by omega⟩ rfl (Nat.le_of_ble_eq_true rfl) dL_law_286 rfl rfl ?_
  refine Vw.icmp_eq (pc := 289) (tgt := 2228) K dL_law_289 (by decide) (fun c29 => ?_) (fun c29 => ?_)
  · have h := wpos c29 h
    exact Vw.loc rfl (s_L_law_2228 K E hX (fu := fu) (by omega) (by omega) hr23 h)
  · have h := wneg c29 h
    refine Vw.iconst (pc := 292) (v := (0 : Int32)) K (by decide) dL_law_292 ?_
    exact Vw.lawret (pc := 293) K E h (by omega) (by omega) dL_law_293
def k_L_law_294 (xs : Nat → Int32) (Ln : Nat) (rec23 : Hp → Int32 → Option Int32) (A : Hp) (x1 : Nat) (x2 : Nat) (x3 : Nat) (x4 : Int32)  : Option Int32 := if (hsh A x1).1 = 7 then ((f_X8_openRequest A x1).bind fun p32 => if (hsh p32.2 x2).1 = 8 then ((f_X9_openRequest p32.2 x2).bind fun p35 => (if p32.1 = p35.1 then k_L_law_2228 xs Ln rec23 p35.2 x1 x2 x3 x4 else some (0 : Int32))) else none) else none
set_option maxRecDepth 100000 in
theorem s_L_law_294 {κ : KT} {xs : Nat → Int32} {Ln : Nat} {rec23 : Hp → Int32 → Option Int32} {A : Hp} {x1 : Nat} {x2 : Nat} {x3 : Nat} {x4 : Int32}  {c n fu : Nat} (K : Cx κ cL_law 8 RL 14 540 601024 7293034) (E : EdW κ) (hX : SX κ Ln xs) (hc9 : c + fu * 423 + 0 ≤ 217462) (hn9 : n + fu * 8600 + 0 ≤ 4447408) (hr23 : ∀ (c n : Nat) (A : Hp) (x4 : Int32), c + fu * 423 ≤ 217462 → n + fu * 8600 ≤ 4447408 → rec23 A x4 = some 1 → Vw κ A c n 23 [(0, .inr (.inr 92)), (1, .inr (.inr x1)), (2, .inr (.inr x2)), (3, .inr (.inr x3)), (4, .inl x4)] []) (h : k_L_law_294 xs Ln rec23 A x1 x2 x3 x4  = some 1) : Vw κ A c n 294 [(0, .inr (.inr 92)), (1, .inr (.inr x1)), (2, .inr (.inr x2)), (3, .inr (.inr x3)), (4, .inl x4)] [] := by
  unfold k_L_law_294 at h
  refine Vw.aload_n (pc := 294) (x := x1) K dL_law_294 rfl ?_
  obtain ⟨g30, h⟩ := wgd h
  obtain ⟨p32, e31, h⟩ := wbd h
  refine Vw.cV1 (pc := 295) (v := .inl p32.1) (c' := c) (n' := n) K (s_X8_openRequest K.tr e31) cal_X8_openRequest cls6 u_2_188 g30 rfl ⟨by decide, by decide⟩ ⟨by omega, by omega⟩ rfl (Nat.le_of_ble_eq_true rfl) dL_law_295 rfl rfl ?_
  refine Vw.aload_n (pc := 298) (x := x2) K dL_law_298 rfl ?_
  obtain ⟨g33, h⟩ := wgd h
  obtain ⟨p35, e34, h⟩ := wbd h
  refine Vw.cV1 (pc := 299) (v := .inl p35.1) (c' := c) (n' := n) K (s_X9_openRequest K.tr e34) cal_X9_openRequest cls7 u_6_174 g33 rfl ⟨by decide, by decide⟩ ⟨by omega, by omega⟩ rfl (Nat.le_of_ble_eq_true rfl) dL_law_299 rfl rfl ?_
  refine Vw.icmp_eq (pc := 302) (tgt := 2228) K dL_law_302 (by decide) (fun c36 => ?_) (fun c36 => ?_)
  · have h := wpos c36 h
    exact Vw.loc rfl (s_L_law_2228 K E hX (fu := fu) (by omega) (by omega) hr23 h)
  · have h := wneg c36 h
    refine Vw.iconst (pc := 305) (v := (0 : Int32)) K (by decide) dL_law_305 ?_
    exact Vw.lawret (pc := 306) K E h (by omega) (by omega) dL_law_306
def k_L_law_349 (xs : Nat → Int32) (Ln : Nat) (rec23 : Hp → Int32 → Option Int32) (A : Hp) (x1 : Nat) (x2 : Nat) (x3 : Nat) (x4 : Int32) (t0 : Int64) (t1 : Int64) : Option Int32 := (if t0 = t1 then k_L_law_2228 xs Ln rec23 A x1 x2 x3 x4 else some (0 : Int32))
set_option maxRecDepth 100000 in
theorem s_L_law_349 {κ : KT} {xs : Nat → Int32} {Ln : Nat} {rec23 : Hp → Int32 → Option Int32} {A : Hp} {x1 : Nat} {x2 : Nat} {x3 : Nat} {x4 : Int32} {t0 : Int64} {t1 : Int64} {c n fu : Nat} (K : Cx κ cL_law 8 RL 14 540 601024 7293034) (E : EdW κ) (hX : SX κ Ln xs) (hc9 : c + fu * 423 + 0 ≤ 217462) (hn9 : n + fu * 8600 + 0 ≤ 4447408) (hr23 : ∀ (c n : Nat) (A : Hp) (x4 : Int32), c + fu * 423 ≤ 217462 → n + fu * 8600 ≤ 4447408 → rec23 A x4 = some 1 → Vw κ A c n 23 [(0, .inr (.inr 92)), (1, .inr (.inr x1)), (2, .inr (.inr x2)), (3, .inr (.inr x3)), (4, .inl x4)] []) (h : k_L_law_349 xs Ln rec23 A x1 x2 x3 x4 t0 t1 = some 1) : Vw κ A c n 349 [(0, .inr (.inr 92)), (1, .inr (.inr x1)), (2, .inr (.inr x2)), (3, .inr (.inr x3)), (4, .inl x4)] [.inr (.inl t1), .inr (.inl t0)] := by
  unfold k_L_law_349 at h
  refine Vw.lcmp_eq (pc := 349) (tgt := 355) K dL_law_349 dL_law_350 (by decide) (fun c37 => ?_) (fun c37 => ?_)
  · have h := wpos c37 h
    refine Vw.goto (pc := 355) (tgt := 2228) K dL_law_355 (by decide) ?_
    exact Vw.loc rfl (s_L_law_2228 K E hX (fu := fu) (by omega) (by omega) hr23 h)
  · have h := wneg c37 h
    refine Vw.iconst (pc := 353) (v := (0 : Int32)) K (by decide) dL_law_353 ?_
    exact Vw.lawret (pc := 354) K E h (by omega) (by omega) dL_law_354
def k_L_law_307 (xs : Nat → Int32) (Ln : Nat) (rec23 : Hp → Int32 → Option Int32) (A : Hp) (x1 : Nat) (x2 : Nat) (x3 : Nat) (x4 : Int32)  : Option Int32 := ((f_L_isSameSite A x1 x3).bind fun p39 => if (hsh p39.2 x2).1 = 8 then ((f_X9_isSameSite p39.2 x2).bind fun p42 => if (hsh p42.2 x2).1 = 8 then ((f_X9_thrown p42.2 x2).bind fun v45 => (if v45 = p39.1 then (if p39.1 = (0 : Int32) then if (hsh p42.2 x3).1 = 11 then if wix (0 : Int32) (hsh p42.2 x3).2 then (if p42.1 = (0 : Int32) then k_L_law_349 xs Ln rec23 p42.2 x1 x2 x3 x4 (hgL p42.2 1035 x3 (0 : Int32).toNatClampNeg) (0 : Int64) else k_L_law_349 xs Ln rec23 p42.2 x1 x2 x3 x4 (hgL p42.2 1035 x3 (0 : Int32).toNatClampNeg) (1 : Int64)) else none else none else k_L_law_2228 xs Ln rec23 p42.2 x1 x2 x3 x4) else some (0 : Int32))) else none) else none)
set_option maxRecDepth 100000 in
theorem s_L_law_307 {κ : KT} {xs : Nat → Int32} {Ln : Nat} {rec23 : Hp → Int32 → Option Int32} {A : Hp} {x1 : Nat} {x2 : Nat} {x3 : Nat} {x4 : Int32}  {c n fu : Nat} (K : Cx κ cL_law 8 RL 14 540 601024 7293034) (E : EdW κ) (hX : SX κ Ln xs) (hc9 : c + fu * 423 + 1 ≤ 217462) (hn9 : n + fu * 8600 + 6 ≤ 4447408) (hr23 : ∀ (c n : Nat) (A : Hp) (x4 : Int32), c + fu * 423 ≤ 217462 → n + fu * 8600 ≤ 4447408 → rec23 A x4 = some 1 → Vw κ A c n 23 [(0, .inr (.inr 92)), (1, .inr (.inr x1)), (2, .inr (.inr x2)), (3, .inr (.inr x3)), (4, .inl x4)] []) (h : k_L_law_307 xs Ln rec23 A x1 x2 x3 x4  = some 1) : Vw κ A c n 307 [(0, .inr (.inr 92)), (1, .inr (.inr x1)), (2, .inr (.inr x2)), (3, .inr (.inr x3)), (4, .inl x4)] [] := by
  unfold k_L_law_307 at h
  refine Vw.aload_n (pc := 307) (x := x1) K dL_law_307 rfl ?_
  refine Vw.aload_n (pc := 308) (x := x3) K dL_law_308 rfl ?_
  obtain ⟨p39, e38, h⟩ := wbd h
  refine Vw.cH1 (pc := 309) (v := .inl p39.1) (c' := c + 1) (n' := n + 6) K (s_L_isSameSite K.tr e38) cal_L_isSameSite u_3_119 rfl ⟨by decide, by decide⟩ ⟨by omega, by omega⟩ rfl (Nat.le_of_ble_eq_true rfl) dL_law_309 rfl rfl ?_
  refine Vw.istore (pc := 312) K dL_law_312 (by decide) ?_
  refine Vw.aload_n (pc := 314) (x := x2) K dL_law_314 rfl ?_
  obtain ⟨g40, h⟩ := wgd h
  obtain ⟨p42, e41, h⟩ := wbd h
  refine Vw.cV1 (pc := 315) (v := .inl p42.1) (c' := c + 1) (n' := n + 6) K (s_X9_isSameSite K.tr e41) cal_X9_isSameSite cls7 u_6_178 g40 rfl ⟨by decide, by decide⟩ ⟨by omega, by omega⟩ rfl (Nat.le_of_ble_eq_true rfl) dL_law_315 rfl rfl ?_
  refine Vw.istore (pc := 318) K dL_law_318 (by decide) ?_
  refine Vw.aload_n (pc := 320) (x := x2) K dL_law_320 rfl ?_
  obtain ⟨g43, h⟩ := wgd h
  obtain ⟨v45, e44, h⟩ := wbd h
  refine Vw.cV1 (pc := 321) (v := .inl v45) (c' := c + 1) (n' := n + 6) K (s_X9_thrown K.tr e44) cal_X9_thrown cls7 u_6_134 g43 rfl ⟨by decide, by decide⟩ ⟨by omega, by omega⟩ rfl (Nat.le_of_ble_eq_true rfl) dL_law_321 rfl rfl ?_
  refine Vw.iload (pc := 324) (x := p39.1) K dL_law_324 rfl ?_
  refine Vw.icmp_eq (pc := 326) (tgt := 331) K dL_law_326 (by decide) (fun c46 => ?_) (fun c46 => ?_)
  · have h := wpos c46 h
    refine Vw.iload (pc := 331) (x := p39.1) K dL_law_331 rfl ?_
    refine Vw.if_ne (pc := 333) (tgt := 355) K dL_law_333 (by decide) (fun c47 => ?_) (fun c47 => ?_)
    · have h := wneg c47 h
      refine Vw.goto (pc := 355) (tgt := 2228) K dL_law_355 (by decide) ?_
      exact Vw.loc rfl (s_L_law_2228 K E hX (fu := fu) (by omega) (by omega) hr23 h)
    · have h := wpos c47 h
      refine Vw.aload_n (pc := 336) (x := x3) K dL_law_336 rfl ?_
      refine Vw.iconst (pc := 337) (v := (0 : Int32)) K (by decide) dL_law_337 ?_
      obtain ⟨g48, h⟩ := wgd h
      obtain ⟨g49, h⟩ := wgd h
      refine Vw.laload (pc := 338) K g48 g49 dL_law_338 ?_
      refine Vw.iload (pc := 339) (x := p42.1) K dL_law_339 rfl ?_
      refine Vw.if_eq (pc := 341) (tgt := 348) K dL_law_341 (by decide) (fun c50 => ?_) (fun c50 => ?_)
      · have h := wpos c50 h
        refine Vw.lconst (pc := 348) (v := (0 : Int64)) K (by decide) dL_law_348 ?_
        exact Vw.loc rfl (s_L_law_349 K E hX (fu := fu) (by omega) (by omega) hr23 h)
      · have h := wneg c50 h
        refine Vw.lconst (pc := 344) (v := (1 : Int64)) K (by decide) dL_law_344 ?_
        refine Vw.goto (pc := 345) (tgt := 349) K dL_law_345 (by decide) ?_
        exact Vw.loc rfl (s_L_law_349 K E hX (fu := fu) (by omega) (by omega) hr23 h)
  · have h := wneg c46 h
    refine Vw.iconst (pc := 329) (v := (0 : Int32)) K (by decide) dL_law_329 ?_
    exact Vw.lawret (pc := 330) K E h (by omega) (by omega) dL_law_330
def k_L_law_358 (xs : Nat → Int32) (Ln : Nat) (rec23 : Hp → Int32 → Option Int32) (A : Hp) (x1 : Nat) (x2 : Nat) (x3 : Nat) (x4 : Int32)  : Option Int32 := if wix (x4 + (1 : Int32)) Ln then ((f_L_siteChar A x1 (xs (x4 + (1 : Int32)).toNatClampNeg) x3).bind fun p53 => if wix (x4 + (1 : Int32)) Ln then if (hsh p53.2 x2).1 = 8 then ((f_X9_siteChar p53.2 x2 (xs (x4 + (1 : Int32)).toNatClampNeg)).bind fun p57 => if (hsh p57.2 x2).1 = 8 then ((f_X9_thrown p57.2 x2).bind fun v60 => (if v60 = p53.1 then (if p53.1 = (0 : Int32) then if (hsh p57.2 x3).1 = 11 then if wix (0 : Int32) (hsh p57.2 x3).2 then (if (hgL p57.2 1035 x3 (0 : Int32).toNatClampNeg) = p57.1.toInt64 then k_L_law_2228 xs Ln rec23 p57.2 x1 x2 x3 x4 else some (0 : Int32)) else none else none else k_L_law_2228 xs Ln rec23 p57.2 x1 x2 x3 x4) else some (0 : Int32))) else none) else none else none) else none
set_option maxRecDepth 100000 in
theorem s_L_law_358 {κ : KT} {xs : Nat → Int32} {Ln : Nat} {rec23 : Hp → Int32 → Option Int32} {A : Hp} {x1 : Nat} {x2 : Nat} {x3 : Nat} {x4 : Int32}  {c n fu : Nat} (K : Cx κ cL_law 8 RL 14 540 601024 7293034) (E : EdW κ) (hX : SX κ Ln xs) (hc9 : c + fu * 423 + 2 ≤ 217462) (hn9 : n + fu * 8600 + 12 ≤ 4447408) (hr23 : ∀ (c n : Nat) (A : Hp) (x4 : Int32), c + fu * 423 ≤ 217462 → n + fu * 8600 ≤ 4447408 → rec23 A x4 = some 1 → Vw κ A c n 23 [(0, .inr (.inr 92)), (1, .inr (.inr x1)), (2, .inr (.inr x2)), (3, .inr (.inr x3)), (4, .inl x4)] []) (h : k_L_law_358 xs Ln rec23 A x1 x2 x3 x4  = some 1) : Vw κ A c n 358 [(0, .inr (.inr 92)), (1, .inr (.inr x1)), (2, .inr (.inr x2)), (3, .inr (.inr x3)), (4, .inl x4)] [] := by
  unfold k_L_law_358 at h
  refine Vw.aload_n (pc := 358) (x := x1) K dL_law_358 rfl ?_
  refine Vw.aload_n (pc := 359) (x := 92) K dL_law_359 rfl ?_
  refine Vw.iload (pc := 360) (x := x4) K dL_law_360 rfl ?_
  refine Vw.iconst (pc := 362) (v := (1 : Int32)) K (by decide) dL_law_362 ?_
  refine Vw.iadd (pc := 363) K dL_law_363 ?_
  obtain ⟨g51, h⟩ := wgd h
  refine Vw.sld (pc := 364) K hX g51 dL_law_364 ?_
  refine Vw.aload_n (pc := 365) (x := x3) K dL_law_365 rfl ?_
  obtain ⟨p53, e52, h⟩ := wbd h
  refine Vw.cH1 (pc := 366) (v := .inl p53.1) (c' := c + 2) (n' := n + 12) K (s_L_siteChar K.tr e52) cal_L_siteChar u_3_166 rfl ⟨by decide, by decide⟩ ⟨by omega, by omega⟩ rfl (Nat.le_of_ble_eq_true rfl) dL_law_366 rfl rfl ?_
  refine Vw.istore (pc := 369) K dL_law_369 (by decide) ?_
  refine Vw.aload_n (pc := 371) (x := x2) K dL_law_371 rfl ?_
  refine Vw.aload_n (pc := 372) (x := 92) K dL_law_372 rfl ?_
  refine Vw.iload (pc := 373) (x := x4) K dL_law_373 rfl ?_
  refine Vw.iconst (pc := 375) (v := (1 : Int32)) K (by decide) dL_law_375 ?_
  refine Vw.iadd (pc := 376) K dL_law_376 ?_
  obtain ⟨g54, h⟩ := wgd h
  refine Vw.sld (pc := 377) K hX g54 dL_law_377 ?_
  obtain ⟨g55, h⟩ := wgd h
  obtain ⟨p57, e56, h⟩ := wbd h
  refine Vw.cV1 (pc := 378) (v := .inl p57.1) (c' := c + 2) (n' := n + 12) K (s_X9_siteChar K.tr e56) cal_X9_siteChar cls7 u_6_210 g55 rfl ⟨by decide, by decide⟩ ⟨by omega, by omega⟩ rfl (Nat.le_of_ble_eq_true rfl) dL_law_378 rfl rfl ?_
  refine Vw.istore (pc := 381) K dL_law_381 (by decide) ?_
  refine Vw.aload_n (pc := 383) (x := x2) K dL_law_383 rfl ?_
  obtain ⟨g58, h⟩ := wgd h
  obtain ⟨v60, e59, h⟩ := wbd h
  refine Vw.cV1 (pc := 384) (v := .inl v60) (c' := c + 2) (n' := n + 12) K (s_X9_thrown K.tr e59) cal_X9_thrown cls7 u_6_134 g58 rfl ⟨by decide, by decide⟩ ⟨by omega, by omega⟩ rfl (Nat.le_of_ble_eq_true rfl) dL_law_384 rfl rfl ?_
  refine Vw.iload (pc := 387) (x := p53.1) K dL_law_387 rfl ?_
  refine Vw.icmp_eq (pc := 389) (tgt := 394) K dL_law_389 (by decide) (fun c61 => ?_) (fun c61 => ?_)
  · have h := wpos c61 h
    refine Vw.iload (pc := 394) (x := p53.1) K dL_law_394 rfl ?_
    refine Vw.if_ne (pc := 396) (tgt := 411) K dL_law_396 (by decide) (fun c62 => ?_) (fun c62 => ?_)
    · have h := wneg c62 h
      refine Vw.goto (pc := 411) (tgt := 2228) K dL_law_411 (by decide) ?_
      exact Vw.loc rfl (s_L_law_2228 K E hX (fu := fu) (by omega) (by omega) hr23 h)
    · have h := wpos c62 h
      refine Vw.aload_n (pc := 399) (x := x3) K dL_law_399 rfl ?_
      refine Vw.iconst (pc := 400) (v := (0 : Int32)) K (by decide) dL_law_400 ?_
      obtain ⟨g63, h⟩ := wgd h
      obtain ⟨g64, h⟩ := wgd h
      refine Vw.laload (pc := 401) K g63 g64 dL_law_401 ?_
      refine Vw.iload (pc := 402) (x := p57.1) K dL_law_402 rfl ?_
      refine Vw.i2l (pc := 404) K dL_law_404 ?_
      refine Vw.lcmp_eq (pc := 405) (tgt := 411) K dL_law_405 dL_law_406 (by decide) (fun c65 => ?_) (fun c65 => ?_)
      · have h := wpos c65 h
        refine Vw.goto (pc := 411) (tgt := 2228) K dL_law_411 (by decide) ?_
        exact Vw.loc rfl (s_L_law_2228 K E hX (fu := fu) (by omega) (by omega) hr23 h)
      · have h := wneg c65 h
        refine Vw.iconst (pc := 409) (v := (0 : Int32)) K (by decide) dL_law_409 ?_
        exact Vw.lawret (pc := 410) K E h (by omega) (by omega) dL_law_410
  · have h := wneg c61 h
    refine Vw.iconst (pc := 392) (v := (0 : Int32)) K (by decide) dL_law_392 ?_
    exact Vw.lawret (pc := 393) K E h (by omega) (by omega) dL_law_393
def k_L_law_414 (xs : Nat → Int32) (Ln : Nat) (rec23 : Hp → Int32 → Option Int32) (A : Hp) (x1 : Nat) (x2 : Nat) (x3 : Nat) (x4 : Int32)  : Option Int32 := ((f_L_addSuffix A x1 x3).bind fun p67 => if (hsh p67.2 x2).1 = 8 then ((f_X9_addSuffix p67.2 x2).bind fun p70 => if (hsh p70.2 x2).1 = 8 then ((f_X9_thrown p70.2 x2).bind fun v73 => (if v73 = p67.1 then (if p67.1 = (0 : Int32) then if (hsh p70.2 x3).1 = 11 then if wix (0 : Int32) (hsh p70.2 x3).2 then (if (hgL p70.2 1035 x3 (0 : Int32).toNatClampNeg) = p70.1.toInt64 then k_L_law_2228 xs Ln rec23 p70.2 x1 x2 x3 x4 else some (0 : Int32)) else none else none else k_L_law_2228 xs Ln rec23 p70.2 x1 x2 x3 x4) else some (0 : Int32))) else none) else none)
set_option maxRecDepth 100000 in
theorem s_L_law_414 {κ : KT} {xs : Nat → Int32} {Ln : Nat} {rec23 : Hp → Int32 → Option Int32} {A : Hp} {x1 : Nat} {x2 : Nat} {x3 : Nat} {x4 : Int32}  {c n fu : Nat} (K : Cx κ cL_law 8 RL 14 540 601024 7293034) (E : EdW κ) (hX : SX κ Ln xs) (hc9 : c + fu * 423 + 1 ≤ 217462) (hn9 : n + fu * 8600 + 6 ≤ 4447408) (hr23 : ∀ (c n : Nat) (A : Hp) (x4 : Int32), c + fu * 423 ≤ 217462 → n + fu * 8600 ≤ 4447408 → rec23 A x4 = some 1 → Vw κ A c n 23 [(0, .inr (.inr 92)), (1, .inr (.inr x1)), (2, .inr (.inr x2)), (3, .inr (.inr x3)), (4, .inl x4)] []) (h : k_L_law_414 xs Ln rec23 A x1 x2 x3 x4  = some 1) : Vw κ A c n 414 [(0, .inr (.inr 92)), (1, .inr (.inr x1)), (2, .inr (.inr x2)), (3, .inr (.inr x3)), (4, .inl x4)] [] := by
  unfold k_L_law_414 at h
  refine Vw.aload_n (pc := 414) (x := x1) K dL_law_414 rfl ?_
  refine Vw.aload_n (pc := 415) (x := x3) K dL_law_415 rfl ?_
  obtain ⟨p67, e66, h⟩ := wbd h
  refine Vw.cH1 (pc := 416) (v := .inl p67.1) (c' := c + 1) (n' := n + 6) K (s_L_addSuffix K.tr e66) cal_L_addSuffix u_3_196 rfl ⟨by decide, by decide⟩ ⟨by omega, by omega⟩ rfl (Nat.le_of_ble_eq_true rfl) dL_law_416 rfl rfl ?_
  refine Vw.istore (pc := 419) K dL_law_419 (by decide) ?_
  refine Vw.aload_n (pc := 421) (x := x2) K dL_law_421 rfl ?_
  obtain ⟨g68, h⟩ := wgd h
  obtain ⟨p70, e69, h⟩ := wbd h
  refine Vw.cV1 (pc := 422) (v := .inl p70.1) (c' := c + 1) (n' := n + 6) K (s_X9_addSuffix K.tr e69) cal_X9_addSuffix cls7 u_6_232 g68 rfl ⟨by decide, by decide⟩ ⟨by omega, by omega⟩ rfl (Nat.le_of_ble_eq_true rfl) dL_law_422 rfl rfl ?_
  refine Vw.istore (pc := 425) K dL_law_425 (by decide) ?_
  refine Vw.aload_n (pc := 427) (x := x2) K dL_law_427 rfl ?_
  obtain ⟨g71, h⟩ := wgd h
  obtain ⟨v73, e72, h⟩ := wbd h
  refine Vw.cV1 (pc := 428) (v := .inl v73) (c' := c + 1) (n' := n + 6) K (s_X9_thrown K.tr e72) cal_X9_thrown cls7 u_6_134 g71 rfl ⟨by decide, by decide⟩ ⟨by omega, by omega⟩ rfl (Nat.le_of_ble_eq_true rfl) dL_law_428 rfl rfl ?_
  refine Vw.iload (pc := 431) (x := p67.1) K dL_law_431 rfl ?_
  refine Vw.icmp_eq (pc := 433) (tgt := 438) K dL_law_433 (by decide) (fun c74 => ?_) (fun c74 => ?_)
  · have h := wpos c74 h
    refine Vw.iload (pc := 438) (x := p67.1) K dL_law_438 rfl ?_
    refine Vw.if_ne (pc := 440) (tgt := 455) K dL_law_440 (by decide) (fun c75 => ?_) (fun c75 => ?_)
    · have h := wneg c75 h
      refine Vw.goto (pc := 455) (tgt := 2228) K dL_law_455 (by decide) ?_
      exact Vw.loc rfl (s_L_law_2228 K E hX (fu := fu) (by omega) (by omega) hr23 h)
    · have h := wpos c75 h
      refine Vw.aload_n (pc := 443) (x := x3) K dL_law_443 rfl ?_
      refine Vw.iconst (pc := 444) (v := (0 : Int32)) K (by decide) dL_law_444 ?_
      obtain ⟨g76, h⟩ := wgd h
      obtain ⟨g77, h⟩ := wgd h
      refine Vw.laload (pc := 445) K g76 g77 dL_law_445 ?_
      refine Vw.iload (pc := 446) (x := p70.1) K dL_law_446 rfl ?_
      refine Vw.i2l (pc := 448) K dL_law_448 ?_
      refine Vw.lcmp_eq (pc := 449) (tgt := 455) K dL_law_449 dL_law_450 (by decide) (fun c78 => ?_) (fun c78 => ?_)
      · have h := wpos c78 h
        refine Vw.goto (pc := 455) (tgt := 2228) K dL_law_455 (by decide) ?_
        exact Vw.loc rfl (s_L_law_2228 K E hX (fu := fu) (by omega) (by omega) hr23 h)
      · have h := wneg c78 h
        refine Vw.iconst (pc := 453) (v := (0 : Int32)) K (by decide) dL_law_453 ?_
        exact Vw.lawret (pc := 454) K E h (by omega) (by omega) dL_law_454
  · have h := wneg c74 h
    refine Vw.iconst (pc := 436) (v := (0 : Int32)) K (by decide) dL_law_436 ?_
    exact Vw.lawret (pc := 437) K E h (by omega) (by omega) dL_law_437
def k_L_law_494 (xs : Nat → Int32) (Ln : Nat) (rec23 : Hp → Int32 → Option Int32) (A : Hp) (x1 : Nat) (x2 : Nat) (x3 : Nat) (x4 : Int32) (x5 : Int32) (t0 : Nat) (t1 : Int32) : Option Int32 := if (hsh A t0).1 = 8 then ((f_X9_receive A t0 t1).bind fun p81 => if (hsh p81.2 x2).1 = 8 then ((f_X9_thrown p81.2 x2).bind fun v84 => (if v84 = x5 then (if x5 = (0 : Int32) then if (hsh p81.2 x3).1 = 11 then if wix (0 : Int32) (hsh p81.2 x3).2 then (if (hgL p81.2 1035 x3 (0 : Int32).toNatClampNeg) = p81.1.toInt64 then k_L_law_2228 xs Ln rec23 p81.2 x1 x2 x3 x4 else some (0 : Int32)) else none else none else k_L_law_2228 xs Ln rec23 p81.2 x1 x2 x3 x4) else some (0 : Int32))) else none) else none
set_option maxRecDepth 100000 in
theorem s_L_law_494 {κ : KT} {xs : Nat → Int32} {Ln : Nat} {rec23 : Hp → Int32 → Option Int32} {A : Hp} {x1 : Nat} {x2 : Nat} {x3 : Nat} {x4 : Int32} {x5 : Int32} {t0 : Nat} {t1 : Int32} {c n fu : Nat} (K : Cx κ cL_law 8 RL 14 540 601024 7293034) (E : EdW κ) (hX : SX κ Ln xs) (hc9 : c + fu * 423 + 0 ≤ 217462) (hn9 : n + fu * 8600 + 0 ≤ 4447408) (hr23 : ∀ (c n : Nat) (A : Hp) (x4 : Int32), c + fu * 423 ≤ 217462 → n + fu * 8600 ≤ 4447408 → rec23 A x4 = some 1 → Vw κ A c n 23 [(0, .inr (.inr 92)), (1, .inr (.inr x1)), (2, .inr (.inr x2)), (3, .inr (.inr x3)), (4, .inl x4)] []) (h : k_L_law_494 xs Ln rec23 A x1 x2 x3 x4 x5 t0 t1 = some 1) : Vw κ A c n 494 [(0, .inr (.inr 92)), (1, .inr (.inr x1)), (2, .inr (.inr x2)), (3, .inr (.inr x3)), (4, .inl x4), (5, .inl x5)] [.inl t1, .inr (.inr t0)] := by
  unfold k_L_law_494 at h
  obtain ⟨g79, h⟩ := wgd h
  obtain ⟨p81, e80, h⟩ := wbd h
  refine Vw.cV1 (pc := 494) (v := .inl p81.1) (c' := c) (n' := n) K (s_X9_receive K.tr e80) cal_X9_receive cls7 u_7_2 g79 rfl ⟨by decide, by decide⟩ ⟨by omega, by omega⟩ rfl (Nat.le_of_ble_eq_true rfl) dL_law_494 rfl rfl ?_
  refine Vw.istore (pc := 497) K dL_law_497 (by decide) ?_
  refine Vw.aload_n (pc := 499) (x := x2) K dL_law_499 rfl ?_
  obtain ⟨g82, h⟩ := wgd h
  obtain ⟨v84, e83, h⟩ := wbd h
  refine Vw.cV1 (pc := 500) (v := .inl v84) (c' := c) (n' := n) K (s_X9_thrown K.tr e83) cal_X9_thrown cls7 u_6_134 g82 rfl ⟨by decide, by decide⟩ ⟨by omega, by omega⟩ rfl (Nat.le_of_ble_eq_true rfl) dL_law_500 rfl rfl ?_
  refine Vw.iload (pc := 503) (x := x5) K dL_law_503 rfl ?_
  refine Vw.icmp_eq (pc := 505) (tgt := 510) K dL_law_505 (by decide) (fun c85 => ?_) (fun c85 => ?_)
  · have h := wpos c85 h
    refine Vw.iload (pc := 510) (x := x5) K dL_law_510 rfl ?_
    refine Vw.if_ne (pc := 512) (tgt := 527) K dL_law_512 (by decide) (fun c86 => ?_) (fun c86 => ?_)
    · have h := wneg c86 h
      refine Vw.goto (pc := 527) (tgt := 2228) K dL_law_527 (by decide) ?_
      exact Vw.loc rfl (s_L_law_2228 K E hX (fu := fu) (by omega) (by omega) hr23 h)
    · have h := wpos c86 h
      refine Vw.aload_n (pc := 515) (x := x3) K dL_law_515 rfl ?_
      refine Vw.iconst (pc := 516) (v := (0 : Int32)) K (by decide) dL_law_516 ?_
      obtain ⟨g87, h⟩ := wgd h
      obtain ⟨g88, h⟩ := wgd h
      refine Vw.laload (pc := 517) K g87 g88 dL_law_517 ?_
      refine Vw.iload (pc := 518) (x := p81.1) K dL_law_518 rfl ?_
      refine Vw.i2l (pc := 520) K dL_law_520 ?_
      refine Vw.lcmp_eq (pc := 521) (tgt := 527) K dL_law_521 dL_law_522 (by decide) (fun c89 => ?_) (fun c89 => ?_)
      · have h := wpos c89 h
        refine Vw.goto (pc := 527) (tgt := 2228) K dL_law_527 (by decide) ?_
        exact Vw.loc rfl (s_L_law_2228 K E hX (fu := fu) (by omega) (by omega) hr23 h)
      · have h := wneg c89 h
        refine Vw.iconst (pc := 525) (v := (0 : Int32)) K (by decide) dL_law_525 ?_
        exact Vw.lawret (pc := 526) K E h (by omega) (by omega) dL_law_526
  · have h := wneg c85 h
    refine Vw.iconst (pc := 508) (v := (0 : Int32)) K (by decide) dL_law_508 ?_
    exact Vw.lawret (pc := 509) K E h (by omega) (by omega) dL_law_509
def k_L_law_473 (xs : Nat → Int32) (Ln : Nat) (rec23 : Hp → Int32 → Option Int32) (A : Hp) (x1 : Nat) (x2 : Nat) (x3 : Nat) (x4 : Int32) (t0 : Nat) (t1 : Int32) : Option Int32 := ((f_L_receive A t0 t1 x3).bind fun p91 => if wix (x4 + (1 : Int32)) Ln then (if (xs (x4 + (1 : Int32)).toNatClampNeg) = (0 : Int32) then k_L_law_494 xs Ln rec23 p91.2 x1 x2 x3 x4 p91.1 x2 (0 : Int32) else k_L_law_494 xs Ln rec23 p91.2 x1 x2 x3 x4 p91.1 x2 (1 : Int32)) else none)
set_option maxRecDepth 100000 in
theorem s_L_law_473 {κ : KT} {xs : Nat → Int32} {Ln : Nat} {rec23 : Hp → Int32 → Option Int32} {A : Hp} {x1 : Nat} {x2 : Nat} {x3 : Nat} {x4 : Int32} {t0 : Nat} {t1 : Int32} {c n fu : Nat} (K : Cx κ cL_law 8 RL 14 540 601024 7293034) (E : EdW κ) (hX : SX κ Ln xs) (hc9 : c + fu * 423 + 1 ≤ 217462) (hn9 : n + fu * 8600 + 6 ≤ 4447408) (hr23 : ∀ (c n : Nat) (A : Hp) (x4 : Int32), c + fu * 423 ≤ 217462 → n + fu * 8600 ≤ 4447408 → rec23 A x4 = some 1 → Vw κ A c n 23 [(0, .inr (.inr 92)), (1, .inr (.inr x1)), (2, .inr (.inr x2)), (3, .inr (.inr x3)), (4, .inl x4)] []) (h : k_L_law_473 xs Ln rec23 A x1 x2 x3 x4 t0 t1 = some 1) : Vw κ A c n 473 [(0, .inr (.inr 92)), (1, .inr (.inr x1)), (2, .inr (.inr x2)), (3, .inr (.inr x3)), (4, .inl x4)] [.inl t1, .inr (.inr t0)] := by
  unfold k_L_law_473 at h
  refine Vw.aload_n (pc := 473) (x := x3) K dL_law_473 rfl ?_
  obtain ⟨p91, e90, h⟩ := wbd h
  refine Vw.cH1 (pc := 474) (v := .inl p91.1) (c' := c + 1) (n' := n + 6) K (s_L_receive K.tr e90) cal_L_receive u_3_228 rfl ⟨by decide, by decide⟩ ⟨by omega, by omega⟩ rfl (Nat.le_of_ble_eq_true rfl) dL_law_474 rfl rfl ?_
  refine Vw.istore (pc := 477) K dL_law_477 (by decide) ?_
  refine Vw.aload_n (pc := 479) (x := x2) K dL_law_479 rfl ?_
  refine Vw.aload_n (pc := 480) (x := 92) K dL_law_480 rfl ?_
  refine Vw.iload (pc := 481) (x := x4) K dL_law_481 rfl ?_
  refine Vw.iconst (pc := 483) (v := (1 : Int32)) K (by decide) dL_law_483 ?_
  refine Vw.iadd (pc := 484) K dL_law_484 ?_
  obtain ⟨g92, h⟩ := wgd h
  refine Vw.sld (pc := 485) K hX g92 dL_law_485 ?_
  refine Vw.if_eq (pc := 486) (tgt := 493) K dL_law_486 (by decide) (fun c93 => ?_) (fun c93 => ?_)
  · have h := wpos c93 h
    refine Vw.iconst (pc := 493) (v := (0 : Int32)) K (by decide) dL_law_493 ?_
    exact Vw.loc rfl (s_L_law_494 K E hX (fu := fu) (by omega) (by omega) hr23 h)
  · have h := wneg c93 h
    refine Vw.iconst (pc := 489) (v := (1 : Int32)) K (by decide) dL_law_489 ?_
    refine Vw.goto (pc := 490) (tgt := 494) K dL_law_490 (by decide) ?_
    exact Vw.loc rfl (s_L_law_494 K E hX (fu := fu) (by omega) (by omega) hr23 h)
def k_L_law_458 (xs : Nat → Int32) (Ln : Nat) (rec23 : Hp → Int32 → Option Int32) (A : Hp) (x1 : Nat) (x2 : Nat) (x3 : Nat) (x4 : Int32)  : Option Int32 := if wix (x4 + (1 : Int32)) Ln then (if (xs (x4 + (1 : Int32)).toNatClampNeg) = (0 : Int32) then k_L_law_473 xs Ln rec23 A x1 x2 x3 x4 x1 (0 : Int32) else k_L_law_473 xs Ln rec23 A x1 x2 x3 x4 x1 (1 : Int32)) else none
set_option maxRecDepth 100000 in
theorem s_L_law_458 {κ : KT} {xs : Nat → Int32} {Ln : Nat} {rec23 : Hp → Int32 → Option Int32} {A : Hp} {x1 : Nat} {x2 : Nat} {x3 : Nat} {x4 : Int32}  {c n fu : Nat} (K : Cx κ cL_law 8 RL 14 540 601024 7293034) (E : EdW κ) (hX : SX κ Ln xs) (hc9 : c + fu * 423 + 1 ≤ 217462) (hn9 : n + fu * 8600 + 6 ≤ 4447408) (hr23 : ∀ (c n : Nat) (A : Hp) (x4 : Int32), c + fu * 423 ≤ 217462 → n + fu * 8600 ≤ 4447408 → rec23 A x4 = some 1 → Vw κ A c n 23 [(0, .inr (.inr 92)), (1, .inr (.inr x1)), (2, .inr (.inr x2)), (3, .inr (.inr x3)), (4, .inl x4)] []) (h : k_L_law_458 xs Ln rec23 A x1 x2 x3 x4  = some 1) : Vw κ A c n 458 [(0, .inr (.inr 92)), (1, .inr (.inr x1)), (2, .inr (.inr x2)), (3, .inr (.inr x3)), (4, .inl x4)] [] := by
  unfold k_L_law_458 at h
  refine Vw.aload_n (pc := 458) (x := x1) K dL_law_458 rfl ?_
  refine Vw.aload_n (pc := 459) (x := 92) K dL_law_459 rfl ?_
  refine Vw.iload (pc := 460) (x := x4) K dL_law_460 rfl ?_
  refine Vw.iconst (pc := 462) (v := (1 : Int32)) K (by decide) dL_law_462 ?_
  refine Vw.iadd (pc := 463) K dL_law_463 ?_
  obtain ⟨g94, h⟩ := wgd h
  refine Vw.sld (pc := 464) K hX g94 dL_law_464 ?_
  refine Vw.if_eq (pc := 465) (tgt := 472) K dL_law_465 (by decide) (fun c95 => ?_) (fun c95 => ?_)
  · have h := wpos c95 h
    refine Vw.iconst (pc := 472) (v := (0 : Int32)) K (by decide) dL_law_472 ?_
    exact Vw.loc rfl (s_L_law_473 K E hX (fu := fu) (by omega) (by omega) hr23 h)
  · have h := wneg c95 h
    refine Vw.iconst (pc := 468) (v := (1 : Int32)) K (by decide) dL_law_468 ?_
    refine Vw.goto (pc := 469) (tgt := 473) K dL_law_469 (by decide) ?_
    exact Vw.loc rfl (s_L_law_473 K E hX (fu := fu) (by omega) (by omega) hr23 h)
def k_L_law_530 (xs : Nat → Int32) (Ln : Nat) (rec23 : Hp → Int32 → Option Int32) (A : Hp) (x1 : Nat) (x2 : Nat) (x3 : Nat) (x4 : Int32)  : Option Int32 := if wix (x4 + (1 : Int32)) Ln then ((f_L_rejection A x1 (xs (x4 + (1 : Int32)).toNatClampNeg) x3).bind fun p98 => if wix (x4 + (1 : Int32)) Ln then if (hsh p98.2 x2).1 = 8 then ((f_X9_rejection p98.2 x2 (xs (x4 + (1 : Int32)).toNatClampNeg)).bind fun p102 => if (hsh p102.2 x2).1 = 8 then ((f_X9_thrown p102.2 x2).bind fun v105 => (if v105 = p98.1 then (if p98.1 = (0 : Int32) then if (hsh p102.2 x3).1 = 11 then if wix (0 : Int32) (hsh p102.2 x3).2 then (if (hgL p102.2 1035 x3 (0 : Int32).toNatClampNeg) = p102.1.toInt64 then k_L_law_2228 xs Ln rec23 p102.2 x1 x2 x3 x4 else some (0 : Int32)) else none else none else k_L_law_2228 xs Ln rec23 p102.2 x1 x2 x3 x4) else some (0 : Int32))) else none) else none else none) else none
set_option maxRecDepth 100000 in
theorem s_L_law_530 {κ : KT} {xs : Nat → Int32} {Ln : Nat} {rec23 : Hp → Int32 → Option Int32} {A : Hp} {x1 : Nat} {x2 : Nat} {x3 : Nat} {x4 : Int32}  {c n fu : Nat} (K : Cx κ cL_law 8 RL 14 540 601024 7293034) (E : EdW κ) (hX : SX κ Ln xs) (hc9 : c + fu * 423 + 1 ≤ 217462) (hn9 : n + fu * 8600 + 6 ≤ 4447408) (hr23 : ∀ (c n : Nat) (A : Hp) (x4 : Int32), c + fu * 423 ≤ 217462 → n + fu * 8600 ≤ 4447408 → rec23 A x4 = some 1 → Vw κ A c n 23 [(0, .inr (.inr 92)), (1, .inr (.inr x1)), (2, .inr (.inr x2)), (3, .inr (.inr x3)), (4, .inl x4)] []) (h : k_L_law_530 xs Ln rec23 A x1 x2 x3 x4  = some 1) : Vw κ A c n 530 [(0, .inr (.inr 92)), (1, .inr (.inr x1)), (2, .inr (.inr x2)), (3, .inr (.inr x3)), (4, .inl x4)] [] := by
  unfold k_L_law_530 at h
  refine Vw.aload_n (pc := 530) (x := x1) K dL_law_530 rfl ?_
  refine Vw.aload_n (pc := 531) (x := 92) K dL_law_531 rfl ?_
  refine Vw.iload (pc := 532) (x := x4) K dL_law_532 rfl ?_
  refine Vw.iconst (pc := 534) (v := (1 : Int32)) K (by decide) dL_law_534 ?_
  refine Vw.iadd (pc := 535) K dL_law_535 ?_
  obtain ⟨g96, h⟩ := wgd h
  refine Vw.sld (pc := 536) K hX g96 dL_law_536 ?_
  refine Vw.aload_n (pc := 537) (x := x3) K dL_law_537 rfl ?_
  obtain ⟨p98, e97, h⟩ := wbd h
  refine Vw.cH1 (pc := 538) (v := .inl p98.1) (c' := c + 1) (n' := n + 6) K (s_L_rejection K.tr e97) cal_L_rejection u_4_232 rfl ⟨by decide, by decide⟩ ⟨by omega, by omega⟩ rfl (Nat.le_of_ble_eq_true rfl) dL_law_538 rfl rfl ?_
  refine Vw.istore (pc := 541) K dL_law_541 (by decide) ?_
  refine Vw.aload_n (pc := 543) (x := x2) K dL_law_543 rfl ?_
  refine Vw.aload_n (pc := 544) (x := 92) K dL_law_544 rfl ?_
  refine Vw.iload (pc := 545) (x := x4) K dL_law_545 rfl ?_
  refine Vw.iconst (pc := 547) (v := (1 : Int32)) K (by decide) dL_law_547 ?_
  refine Vw.iadd (pc := 548) K dL_law_548 ?_
  obtain ⟨g99, h⟩ := wgd h
  refine Vw.sld (pc := 549) K hX g99 dL_law_549 ?_
  obtain ⟨g100, h⟩ := wgd h
  obtain ⟨p102, e101, h⟩ := wbd h
  refine Vw.cV1 (pc := 550) (v := .inl p102.1) (c' := c + 1) (n' := n + 6) K (s_X9_rejection K.tr e101) cal_X9_rejection cls7 u_7_167 g100 rfl ⟨by decide, by decide⟩ ⟨by omega, by omega⟩ rfl (Nat.le_of_ble_eq_true rfl) dL_law_550 rfl rfl ?_
  refine Vw.istore (pc := 553) K dL_law_553 (by decide) ?_
  refine Vw.aload_n (pc := 555) (x := x2) K dL_law_555 rfl ?_
  obtain ⟨g103, h⟩ := wgd h
  obtain ⟨v105, e104, h⟩ := wbd h
  refine Vw.cV1 (pc := 556) (v := .inl v105) (c' := c + 1) (n' := n + 6) K (s_X9_thrown K.tr e104) cal_X9_thrown cls7 u_6_134 g103 rfl ⟨by decide, by decide⟩ ⟨by omega, by omega⟩ rfl (Nat.le_of_ble_eq_true rfl) dL_law_556 rfl rfl ?_
  refine Vw.iload (pc := 559) (x := p98.1) K dL_law_559 rfl ?_
  refine Vw.icmp_eq (pc := 561) (tgt := 566) K dL_law_561 (by decide) (fun c106 => ?_) (fun c106 => ?_)
  · have h := wpos c106 h
    refine Vw.iload (pc := 566) (x := p98.1) K dL_law_566 rfl ?_
    refine Vw.if_ne (pc := 568) (tgt := 583) K dL_law_568 (by decide) (fun c107 => ?_) (fun c107 => ?_)
    · have h := wneg c107 h
      refine Vw.goto (pc := 583) (tgt := 2228) K dL_law_583 (by decide) ?_
      exact Vw.loc rfl (s_L_law_2228 K E hX (fu := fu) (by omega) (by omega) hr23 h)
    · have h := wpos c107 h
      refine Vw.aload_n (pc := 571) (x := x3) K dL_law_571 rfl ?_
      refine Vw.iconst (pc := 572) (v := (0 : Int32)) K (by decide) dL_law_572 ?_
      obtain ⟨g108, h⟩ := wgd h
      obtain ⟨g109, h⟩ := wgd h
      refine Vw.laload (pc := 573) K g108 g109 dL_law_573 ?_
      refine Vw.iload (pc := 574) (x := p102.1) K dL_law_574 rfl ?_
      refine Vw.i2l (pc := 576) K dL_law_576 ?_
      refine Vw.lcmp_eq (pc := 577) (tgt := 583) K dL_law_577 dL_law_578 (by decide) (fun c110 => ?_) (fun c110 => ?_)
      · have h := wpos c110 h
        refine Vw.goto (pc := 583) (tgt := 2228) K dL_law_583 (by decide) ?_
        exact Vw.loc rfl (s_L_law_2228 K E hX (fu := fu) (by omega) (by omega) hr23 h)
      · have h := wneg c110 h
        refine Vw.iconst (pc := 581) (v := (0 : Int32)) K (by decide) dL_law_581 ?_
        exact Vw.lawret (pc := 582) K E h (by omega) (by omega) dL_law_582
  · have h := wneg c106 h
    refine Vw.iconst (pc := 564) (v := (0 : Int32)) K (by decide) dL_law_564 ?_
    exact Vw.lawret (pc := 565) K E h (by omega) (by omega) dL_law_565
def k_L_law_650 (xs : Nat → Int32) (Ln : Nat) (rec23 : Hp → Int32 → Option Int32) (A : Hp) (x1 : Nat) (x2 : Nat) (x3 : Nat) (x4 : Int32) (x5 : Int32) (t0 : Nat) (t1 : Int32) (t2 : Int32) : Option Int32 := if (hsh A t0).1 = 8 then ((f_X9_send A t0 t1 t2).bind fun p113 => if (hsh p113.2 x2).1 = 8 then ((f_X9_thrown p113.2 x2).bind fun v116 => (if v116 = x5 then (if x5 = (0 : Int32) then if (hsh p113.2 x3).1 = 11 then if wix (0 : Int32) (hsh p113.2 x3).2 then (if (hgL p113.2 1035 x3 (0 : Int32).toNatClampNeg) = p113.1.toInt64 then k_L_law_2228 xs Ln rec23 p113.2 x1 x2 x3 x4 else some (0 : Int32)) else none else none else k_L_law_2228 xs Ln rec23 p113.2 x1 x2 x3 x4) else some (0 : Int32))) else none) else none
set_option maxRecDepth 100000 in
theorem s_L_law_650 {κ : KT} {xs : Nat → Int32} {Ln : Nat} {rec23 : Hp → Int32 → Option Int32} {A : Hp} {x1 : Nat} {x2 : Nat} {x3 : Nat} {x4 : Int32} {x5 : Int32} {t0 : Nat} {t1 : Int32} {t2 : Int32} {c n fu : Nat} (K : Cx κ cL_law 8 RL 14 540 601024 7293034) (E : EdW κ) (hX : SX κ Ln xs) (hc9 : c + fu * 423 + 0 ≤ 217462) (hn9 : n + fu * 8600 + 0 ≤ 4447408) (hr23 : ∀ (c n : Nat) (A : Hp) (x4 : Int32), c + fu * 423 ≤ 217462 → n + fu * 8600 ≤ 4447408 → rec23 A x4 = some 1 → Vw κ A c n 23 [(0, .inr (.inr 92)), (1, .inr (.inr x1)), (2, .inr (.inr x2)), (3, .inr (.inr x3)), (4, .inl x4)] []) (h : k_L_law_650 xs Ln rec23 A x1 x2 x3 x4 x5 t0 t1 t2 = some 1) : Vw κ A c n 650 [(0, .inr (.inr 92)), (1, .inr (.inr x1)), (2, .inr (.inr x2)), (3, .inr (.inr x3)), (4, .inl x4), (5, .inl x5)] [.inl t2, .inl t1, .inr (.inr t0)] := by
  unfold k_L_law_650 at h
  obtain ⟨g111, h⟩ := wgd h
  obtain ⟨p113, e112, h⟩ := wbd h
  refine Vw.cV1 (pc := 650) (v := .inl p113.1) (c' := c) (n' := n) K (s_X9_send K.tr e112) cal_X9_send cls7 u_7_171 g111 rfl ⟨by decide, by decide⟩ ⟨by omega, by omega⟩ rfl (Nat.le_of_ble_eq_true rfl) dL_law_650 rfl rfl ?_
  refine Vw.istore (pc := 653) K dL_law_653 (by decide) ?_
  refine Vw.aload_n (pc := 655) (x := x2) K dL_law_655 rfl ?_
  obtain ⟨g114, h⟩ := wgd h
  obtain ⟨v116, e115, h⟩ := wbd h
  refine Vw.cV1 (pc := 656) (v := .inl v116) (c' := c) (n' := n) K (s_X9_thrown K.tr e115) cal_X9_thrown cls7 u_6_134 g114 rfl ⟨by decide, by decide⟩ ⟨by omega, by omega⟩ rfl (Nat.le_of_ble_eq_true rfl) dL_law_656 rfl rfl ?_
  refine Vw.iload (pc := 659) (x := x5) K dL_law_659 rfl ?_
  refine Vw.icmp_eq (pc := 661) (tgt := 666) K dL_law_661 (by decide) (fun c117 => ?_) (fun c117 => ?_)
  · have h := wpos c117 h
    refine Vw.iload (pc := 666) (x := x5) K dL_law_666 rfl ?_
    refine Vw.if_ne (pc := 668) (tgt := 683) K dL_law_668 (by decide) (fun c118 => ?_) (fun c118 => ?_)
    · have h := wneg c118 h
      refine Vw.goto (pc := 683) (tgt := 2228) K dL_law_683 (by decide) ?_
      exact Vw.loc rfl (s_L_law_2228 K E hX (fu := fu) (by omega) (by omega) hr23 h)
    · have h := wpos c118 h
      refine Vw.aload_n (pc := 671) (x := x3) K dL_law_671 rfl ?_
      refine Vw.iconst (pc := 672) (v := (0 : Int32)) K (by decide) dL_law_672 ?_
      obtain ⟨g119, h⟩ := wgd h
      obtain ⟨g120, h⟩ := wgd h
      refine Vw.laload (pc := 673) K g119 g120 dL_law_673 ?_
      refine Vw.iload (pc := 674) (x := p113.1) K dL_law_674 rfl ?_
      refine Vw.i2l (pc := 676) K dL_law_676 ?_
      refine Vw.lcmp_eq (pc := 677) (tgt := 683) K dL_law_677 dL_law_678 (by decide) (fun c121 => ?_) (fun c121 => ?_)
      · have h := wpos c121 h
        refine Vw.goto (pc := 683) (tgt := 2228) K dL_law_683 (by decide) ?_
        exact Vw.loc rfl (s_L_law_2228 K E hX (fu := fu) (by omega) (by omega) hr23 h)
      · have h := wneg c121 h
        refine Vw.iconst (pc := 681) (v := (0 : Int32)) K (by decide) dL_law_681 ?_
        exact Vw.lawret (pc := 682) K E h (by omega) (by omega) dL_law_682
  · have h := wneg c117 h
    refine Vw.iconst (pc := 664) (v := (0 : Int32)) K (by decide) dL_law_664 ?_
    exact Vw.lawret (pc := 665) K E h (by omega) (by omega) dL_law_665
def k_L_law_636 (xs : Nat → Int32) (Ln : Nat) (rec23 : Hp → Int32 → Option Int32) (A : Hp) (x1 : Nat) (x2 : Nat) (x3 : Nat) (x4 : Int32) (x5 : Int32) (t0 : Nat) (t1 : Int32) : Option Int32 := if wix (x4 + (2 : Int32)) Ln then (if (xs (x4 + (2 : Int32)).toNatClampNeg) = (0 : Int32) then k_L_law_650 xs Ln rec23 A x1 x2 x3 x4 x5 t0 t1 (0 : Int32) else k_L_law_650 xs Ln rec23 A x1 x2 x3 x4 x5 t0 t1 (1 : Int32)) else none
set_option maxRecDepth 100000 in
theorem s_L_law_636 {κ : KT} {xs : Nat → Int32} {Ln : Nat} {rec23 : Hp → Int32 → Option Int32} {A : Hp} {x1 : Nat} {x2 : Nat} {x3 : Nat} {x4 : Int32} {x5 : Int32} {t0 : Nat} {t1 : Int32} {c n fu : Nat} (K : Cx κ cL_law 8 RL 14 540 601024 7293034) (E : EdW κ) (hX : SX κ Ln xs) (hc9 : c + fu * 423 + 0 ≤ 217462) (hn9 : n + fu * 8600 + 0 ≤ 4447408) (hr23 : ∀ (c n : Nat) (A : Hp) (x4 : Int32), c + fu * 423 ≤ 217462 → n + fu * 8600 ≤ 4447408 → rec23 A x4 = some 1 → Vw κ A c n 23 [(0, .inr (.inr 92)), (1, .inr (.inr x1)), (2, .inr (.inr x2)), (3, .inr (.inr x3)), (4, .inl x4)] []) (h : k_L_law_636 xs Ln rec23 A x1 x2 x3 x4 x5 t0 t1 = some 1) : Vw κ A c n 636 [(0, .inr (.inr 92)), (1, .inr (.inr x1)), (2, .inr (.inr x2)), (3, .inr (.inr x3)), (4, .inl x4), (5, .inl x5)] [.inl t1, .inr (.inr t0)] := by
  unfold k_L_law_636 at h
  refine Vw.aload_n (pc := 636) (x := 92) K dL_law_636 rfl ?_
  refine Vw.iload (pc := 637) (x := x4) K dL_law_637 rfl ?_
  refine Vw.iconst (pc := 639) (v := (2 : Int32)) K (by decide) dL_law_639 ?_
  refine Vw.iadd (pc := 640) K dL_law_640 ?_
  obtain ⟨g122, h⟩ := wgd h
  refine Vw.sld (pc := 641) K hX g122 dL_law_641 ?_
  refine Vw.if_eq (pc := 642) (tgt := 649) K dL_law_642 (by decide) (fun c123 => ?_) (fun c123 => ?_)
  · have h := wpos c123 h
    refine Vw.iconst (pc := 649) (v := (0 : Int32)) K (by decide) dL_law_649 ?_
    exact Vw.loc rfl (s_L_law_650 K E hX (fu := fu) (by omega) (by omega) hr23 h)
  · have h := wneg c123 h
    refine Vw.iconst (pc := 645) (v := (1 : Int32)) K (by decide) dL_law_645 ?_
    refine Vw.goto (pc := 646) (tgt := 650) K dL_law_646 (by decide) ?_
    exact Vw.loc rfl (s_L_law_650 K E hX (fu := fu) (by omega) (by omega) hr23 h)
def k_L_law_615 (xs : Nat → Int32) (Ln : Nat) (rec23 : Hp → Int32 → Option Int32) (A : Hp) (x1 : Nat) (x2 : Nat) (x3 : Nat) (x4 : Int32) (t0 : Nat) (t1 : Int32) (t2 : Int32) : Option Int32 := ((f_L_send A t0 t1 t2 x3).bind fun p125 => if wix (x4 + (1 : Int32)) Ln then (if (xs (x4 + (1 : Int32)).toNatClampNeg) = (0 : Int32) then k_L_law_636 xs Ln rec23 p125.2 x1 x2 x3 x4 p125.1 x2 (0 : Int32) else k_L_law_636 xs Ln rec23 p125.2 x1 x2 x3 x4 p125.1 x2 (1 : Int32)) else none)
set_option maxRecDepth 100000 in
theorem s_L_law_615 {κ : KT} {xs : Nat → Int32} {Ln : Nat} {rec23 : Hp → Int32 → Option Int32} {A : Hp} {x1 : Nat} {x2 : Nat} {x3 : Nat} {x4 : Int32} {t0 : Nat} {t1 : Int32} {t2 : Int32} {c n fu : Nat} (K : Cx κ cL_law 8 RL 14 540 601024 7293034) (E : EdW κ) (hX : SX κ Ln xs) (hc9 : c + fu * 423 + 1 ≤ 217462) (hn9 : n + fu * 8600 + 6 ≤ 4447408) (hr23 : ∀ (c n : Nat) (A : Hp) (x4 : Int32), c + fu * 423 ≤ 217462 → n + fu * 8600 ≤ 4447408 → rec23 A x4 = some 1 → Vw κ A c n 23 [(0, .inr (.inr 92)), (1, .inr (.inr x1)), (2, .inr (.inr x2)), (3, .inr (.inr x3)), (4, .inl x4)] []) (h : k_L_law_615 xs Ln rec23 A x1 x2 x3 x4 t0 t1 t2 = some 1) : Vw κ A c n 615 [(0, .inr (.inr 92)), (1, .inr (.inr x1)), (2, .inr (.inr x2)), (3, .inr (.inr x3)), (4, .inl x4)] [.inl t2, .inl t1, .inr (.inr t0)] := by
  unfold k_L_law_615 at h
  refine Vw.aload_n (pc := 615) (x := x3) K dL_law_615 rfl ?_
  obtain ⟨p125, e124, h⟩ := wbd h
  refine Vw.cH1 (pc := 616) (v := .inl p125.1) (c' := c + 1) (n' := n + 6) K (s_L_send K.tr e124) cal_L_send u_5_0 rfl ⟨by decide, by decide⟩ ⟨by omega, by omega⟩ rfl (Nat.le_of_ble_eq_true rfl) dL_law_616 rfl rfl ?_
  refine Vw.istore (pc := 619) K dL_law_619 (by decide) ?_
  refine Vw.aload_n (pc := 621) (x := x2) K dL_law_621 rfl ?_
  refine Vw.aload_n (pc := 622) (x := 92) K dL_law_622 rfl ?_
  refine Vw.iload (pc := 623) (x := x4) K dL_law_623 rfl ?_
  refine Vw.iconst (pc := 625) (v := (1 : Int32)) K (by decide) dL_law_625 ?_
  refine Vw.iadd (pc := 626) K dL_law_626 ?_
  obtain ⟨g126, h⟩ := wgd h
  refine Vw.sld (pc := 627) K hX g126 dL_law_627 ?_
  refine Vw.if_eq (pc := 628) (tgt := 635) K dL_law_628 (by decide) (fun c127 => ?_) (fun c127 => ?_)
  · have h := wpos c127 h
    refine Vw.iconst (pc := 635) (v := (0 : Int32)) K (by decide) dL_law_635 ?_
    exact Vw.loc rfl (s_L_law_636 K E hX (fu := fu) (by omega) (by omega) hr23 h)
  · have h := wneg c127 h
    refine Vw.iconst (pc := 631) (v := (1 : Int32)) K (by decide) dL_law_631 ?_
    refine Vw.goto (pc := 632) (tgt := 636) K dL_law_632 (by decide) ?_
    exact Vw.loc rfl (s_L_law_636 K E hX (fu := fu) (by omega) (by omega) hr23 h)
def k_L_law_601 (xs : Nat → Int32) (Ln : Nat) (rec23 : Hp → Int32 → Option Int32) (A : Hp) (x1 : Nat) (x2 : Nat) (x3 : Nat) (x4 : Int32) (t0 : Nat) (t1 : Int32) : Option Int32 := if wix (x4 + (2 : Int32)) Ln then (if (xs (x4 + (2 : Int32)).toNatClampNeg) = (0 : Int32) then k_L_law_615 xs Ln rec23 A x1 x2 x3 x4 t0 t1 (0 : Int32) else k_L_law_615 xs Ln rec23 A x1 x2 x3 x4 t0 t1 (1 : Int32)) else none
set_option maxRecDepth 100000 in
theorem s_L_law_601 {κ : KT} {xs : Nat → Int32} {Ln : Nat} {rec23 : Hp → Int32 → Option Int32} {A : Hp} {x1 : Nat} {x2 : Nat} {x3 : Nat} {x4 : Int32} {t0 : Nat} {t1 : Int32} {c n fu : Nat} (K : Cx κ cL_law 8 RL 14 540 601024 7293034) (E : EdW κ) (hX : SX κ Ln xs) (hc9 : c + fu * 423 + 1 ≤ 217462) (hn9 : n + fu * 8600 + 6 ≤ 4447408) (hr23 : ∀ (c n : Nat) (A : Hp) (x4 : Int32), c + fu * 423 ≤ 217462 → n + fu * 8600 ≤ 4447408 → rec23 A x4 = some 1 → Vw κ A c n 23 [(0, .inr (.inr 92)), (1, .inr (.inr x1)), (2, .inr (.inr x2)), (3, .inr (.inr x3)), (4, .inl x4)] []) (h : k_L_law_601 xs Ln rec23 A x1 x2 x3 x4 t0 t1 = some 1) : Vw κ A c n 601 [(0, .inr (.inr 92)), (1, .inr (.inr x1)), (2, .inr (.inr x2)), (3, .inr (.inr x3)), (4, .inl x4)] [.inl t1, .inr (.inr t0)] := by
  unfold k_L_law_601 at h
  refine Vw.aload_n (pc := 601) (x := 92) K dL_law_601 rfl ?_
  refine Vw.iload (pc := 602) (x := x4) K dL_law_602 rfl ?_
  refine Vw.iconst (pc := 604) (v := (2 : Int32)) K (by decide) dL_law_604 ?_
  refine Vw.iadd (pc := 605) K dL_law_605 ?_
  obtain ⟨g128, h⟩ := wgd h
  refine Vw.sld (pc := 606) K hX g128 dL_law_606 ?_
  refine Vw.if_eq (pc := 607) (tgt := 614) K dL_law_607 (by decide) (fun c129 => ?_) (fun c129 => ?_)
  · have h := wpos c129 h
    refine Vw.iconst (pc := 614) (v := (0 : Int32)) K (by decide) dL_law_614 ?_
    exact Vw.loc rfl (s_L_law_615 K E hX (fu := fu) (by omega) (by omega) hr23 h)
  · have h := wneg c129 h
    refine Vw.iconst (pc := 610) (v := (1 : Int32)) K (by decide) dL_law_610 ?_
    refine Vw.goto (pc := 611) (tgt := 615) K dL_law_611 (by decide) ?_
    exact Vw.loc rfl (s_L_law_615 K E hX (fu := fu) (by omega) (by omega) hr23 h)
def k_L_law_586 (xs : Nat → Int32) (Ln : Nat) (rec23 : Hp → Int32 → Option Int32) (A : Hp) (x1 : Nat) (x2 : Nat) (x3 : Nat) (x4 : Int32)  : Option Int32 := if wix (x4 + (1 : Int32)) Ln then (if (xs (x4 + (1 : Int32)).toNatClampNeg) = (0 : Int32) then k_L_law_601 xs Ln rec23 A x1 x2 x3 x4 x1 (0 : Int32) else k_L_law_601 xs Ln rec23 A x1 x2 x3 x4 x1 (1 : Int32)) else none
set_option maxRecDepth 100000 in
theorem s_L_law_586 {κ : KT} {xs : Nat → Int32} {Ln : Nat} {rec23 : Hp → Int32 → Option Int32} {A : Hp} {x1 : Nat} {x2 : Nat} {x3 : Nat} {x4 : Int32}  {c n fu : Nat} (K : Cx κ cL_law 8 RL 14 540 601024 7293034) (E : EdW κ) (hX : SX κ Ln xs) (hc9 : c + fu * 423 + 1 ≤ 217462) (hn9 : n + fu * 8600 + 6 ≤ 4447408) (hr23 : ∀ (c n : Nat) (A : Hp) (x4 : Int32), c + fu * 423 ≤ 217462 → n + fu * 8600 ≤ 4447408 → rec23 A x4 = some 1 → Vw κ A c n 23 [(0, .inr (.inr 92)), (1, .inr (.inr x1)), (2, .inr (.inr x2)), (3, .inr (.inr x3)), (4, .inl x4)] []) (h : k_L_law_586 xs Ln rec23 A x1 x2 x3 x4  = some 1) : Vw κ A c n 586 [(0, .inr (.inr 92)), (1, .inr (.inr x1)), (2, .inr (.inr x2)), (3, .inr (.inr x3)), (4, .inl x4)] [] := by
  unfold k_L_law_586 at h
  refine Vw.aload_n (pc := 586) (x := x1) K dL_law_586 rfl ?_
  refine Vw.aload_n (pc := 587) (x := 92) K dL_law_587 rfl ?_
  refine Vw.iload (pc := 588) (x := x4) K dL_law_588 rfl ?_
  refine Vw.iconst (pc := 590) (v := (1 : Int32)) K (by decide) dL_law_590 ?_
  refine Vw.iadd (pc := 591) K dL_law_591 ?_
  obtain ⟨g130, h⟩ := wgd h
  refine Vw.sld (pc := 592) K hX g130 dL_law_592 ?_
  refine Vw.if_eq (pc := 593) (tgt := 600) K dL_law_593 (by decide) (fun c131 => ?_) (fun c131 => ?_)
  · have h := wpos c131 h
    refine Vw.iconst (pc := 600) (v := (0 : Int32)) K (by decide) dL_law_600 ?_
    exact Vw.loc rfl (s_L_law_601 K E hX (fu := fu) (by omega) (by omega) hr23 h)
  · have h := wneg c131 h
    refine Vw.iconst (pc := 596) (v := (1 : Int32)) K (by decide) dL_law_596 ?_
    refine Vw.goto (pc := 597) (tgt := 601) K dL_law_597 (by decide) ?_
    exact Vw.loc rfl (s_L_law_601 K E hX (fu := fu) (by omega) (by omega) hr23 h)
def k_L_law_686 (xs : Nat → Int32) (Ln : Nat) (rec23 : Hp → Int32 → Option Int32) (A : Hp) (x1 : Nat) (x2 : Nat) (x3 : Nat) (x4 : Int32)  : Option Int32 := if wix (x4 + (1 : Int32)) Ln then ((f_L_headerChar A x1 (xs (x4 + (1 : Int32)).toNatClampNeg) x3).bind fun p134 => if wix (x4 + (1 : Int32)) Ln then if (hsh p134.2 x2).1 = 8 then ((f_X9_headerChar p134.2 x2 (xs (x4 + (1 : Int32)).toNatClampNeg)).bind fun p138 => if (hsh p138.2 x2).1 = 8 then ((f_X9_thrown p138.2 x2).bind fun v141 => (if v141 = p134.1 then (if p134.1 = (0 : Int32) then if (hsh p138.2 x3).1 = 11 then if wix (0 : Int32) (hsh p138.2 x3).2 then (if (hgL p138.2 1035 x3 (0 : Int32).toNatClampNeg) = p138.1.toInt64 then k_L_law_2228 xs Ln rec23 p138.2 x1 x2 x3 x4 else some (0 : Int32)) else none else none else k_L_law_2228 xs Ln rec23 p138.2 x1 x2 x3 x4) else some (0 : Int32))) else none) else none else none) else none
set_option maxRecDepth 100000 in
theorem s_L_law_686 {κ : KT} {xs : Nat → Int32} {Ln : Nat} {rec23 : Hp → Int32 → Option Int32} {A : Hp} {x1 : Nat} {x2 : Nat} {x3 : Nat} {x4 : Int32}  {c n fu : Nat} (K : Cx κ cL_law 8 RL 14 540 601024 7293034) (E : EdW κ) (hX : SX κ Ln xs) (hc9 : c + fu * 423 + 1 ≤ 217462) (hn9 : n + fu * 8600 + 6 ≤ 4447408) (hr23 : ∀ (c n : Nat) (A : Hp) (x4 : Int32), c + fu * 423 ≤ 217462 → n + fu * 8600 ≤ 4447408 → rec23 A x4 = some 1 → Vw κ A c n 23 [(0, .inr (.inr 92)), (1, .inr (.inr x1)), (2, .inr (.inr x2)), (3, .inr (.inr x3)), (4, .inl x4)] []) (h : k_L_law_686 xs Ln rec23 A x1 x2 x3 x4  = some 1) : Vw κ A c n 686 [(0, .inr (.inr 92)), (1, .inr (.inr x1)), (2, .inr (.inr x2)), (3, .inr (.inr x3)), (4, .inl x4)] [] := by
  unfold k_L_law_686 at h
  refine Vw.aload_n (pc := 686) (x := x1) K dL_law_686 rfl ?_
  refine Vw.aload_n (pc := 687) (x := 92) K dL_law_687 rfl ?_
  refine Vw.iload (pc := 688) (x := x4) K dL_law_688 rfl ?_
  refine Vw.iconst (pc := 690) (v := (1 : Int32)) K (by decide) dL_law_690 ?_
  refine Vw.iadd (pc := 691) K dL_law_691 ?_
  obtain ⟨g132, h⟩ := wgd h
  refine Vw.sld (pc := 692) K hX g132 dL_law_692 ?_
  refine Vw.aload_n (pc := 693) (x := x3) K dL_law_693 rfl ?_
  obtain ⟨p134, e133, h⟩ := wbd h
  refine Vw.cH1 (pc := 694) (v := .inl p134.1) (c' := c + 1) (n' := n + 6) K (s_L_headerChar K.tr e133) cal_L_headerChar u_5_33 rfl ⟨by decide, by decide⟩ ⟨by omega, by omega⟩ rfl (Nat.le_of_ble_eq_true rfl) dL_law_694 rfl rfl ?_
  refine Vw.istore (pc := 697) K dL_law_697 (by decide) ?_
  refine Vw.aload_n (pc := 699) (x := x2) K dL_law_699 rfl ?_
  refine Vw.aload_n (pc := 700) (x := 92) K dL_law_700 rfl ?_
  refine Vw.iload (pc := 701) (x := x4) K dL_law_701 rfl ?_
  refine Vw.iconst (pc := 703) (v := (1 : Int32)) K (by decide) dL_law_703 ?_
  refine Vw.iadd (pc := 704) K dL_law_704 ?_
  obtain ⟨g135, h⟩ := wgd h
  refine Vw.sld (pc := 705) K hX g135 dL_law_705 ?_
  obtain ⟨g136, h⟩ := wgd h
  obtain ⟨p138, e137, h⟩ := wbd h
  refine Vw.cV1 (pc := 706) (v := .inl p138.1) (c' := c + 1) (n' := n + 6) K (s_X9_headerChar K.tr e137) cal_X9_headerChar cls7 u_7_195 g136 rfl ⟨by decide, by decide⟩ ⟨by omega, by omega⟩ rfl (Nat.le_of_ble_eq_true rfl) dL_law_706 rfl rfl ?_
  refine Vw.istore (pc := 709) K dL_law_709 (by decide) ?_
  refine Vw.aload_n (pc := 711) (x := x2) K dL_law_711 rfl ?_
  obtain ⟨g139, h⟩ := wgd h
  obtain ⟨v141, e140, h⟩ := wbd h
  refine Vw.cV1 (pc := 712) (v := .inl v141) (c' := c + 1) (n' := n + 6) K (s_X9_thrown K.tr e140) cal_X9_thrown cls7 u_6_134 g139 rfl ⟨by decide, by decide⟩ ⟨by omega, by omega⟩ rfl (Nat.le_of_ble_eq_true rfl) dL_law_712 rfl rfl ?_
  refine Vw.iload (pc := 715) (x := p134.1) K dL_law_715 rfl ?_
  refine Vw.icmp_eq (pc := 717) (tgt := 722) K dL_law_717 (by decide) (fun c142 => ?_) (fun c142 => ?_)
  · have h := wpos c142 h
    refine Vw.iload (pc := 722) (x := p134.1) K dL_law_722 rfl ?_
    refine Vw.if_ne (pc := 724) (tgt := 739) K dL_law_724 (by decide) (fun c143 => ?_) (fun c143 => ?_)
    · have h := wneg c143 h
      refine Vw.goto (pc := 739) (tgt := 2228) K dL_law_739 (by decide) ?_
      exact Vw.loc rfl (s_L_law_2228 K E hX (fu := fu) (by omega) (by omega) hr23 h)
    · have h := wpos c143 h
      refine Vw.aload_n (pc := 727) (x := x3) K dL_law_727 rfl ?_
      refine Vw.iconst (pc := 728) (v := (0 : Int32)) K (by decide) dL_law_728 ?_
      obtain ⟨g144, h⟩ := wgd h
      obtain ⟨g145, h⟩ := wgd h
      refine Vw.laload (pc := 729) K g144 g145 dL_law_729 ?_
      refine Vw.iload (pc := 730) (x := p138.1) K dL_law_730 rfl ?_
      refine Vw.i2l (pc := 732) K dL_law_732 ?_
      refine Vw.lcmp_eq (pc := 733) (tgt := 739) K dL_law_733 dL_law_734 (by decide) (fun c146 => ?_) (fun c146 => ?_)
      · have h := wpos c146 h
        refine Vw.goto (pc := 739) (tgt := 2228) K dL_law_739 (by decide) ?_
        exact Vw.loc rfl (s_L_law_2228 K E hX (fu := fu) (by omega) (by omega) hr23 h)
      · have h := wneg c146 h
        refine Vw.iconst (pc := 737) (v := (0 : Int32)) K (by decide) dL_law_737 ?_
        exact Vw.lawret (pc := 738) K E h (by omega) (by omega) dL_law_738
  · have h := wneg c142 h
    refine Vw.iconst (pc := 720) (v := (0 : Int32)) K (by decide) dL_law_720 ?_
    exact Vw.lawret (pc := 721) K E h (by omega) (by omega) dL_law_721
def k_L_law_852 (xs : Nat → Int32) (Ln : Nat) (rec23 : Hp → Int32 → Option Int32) (A : Hp) (x1 : Nat) (x2 : Nat) (x3 : Nat) (x4 : Int32) (t0 : Int64) (t1 : Int64) : Option Int32 := (if t0 = t1 then k_L_law_2228 xs Ln rec23 A x1 x2 x3 x4 else some (0 : Int32))
set_option maxRecDepth 100000 in
theorem s_L_law_852 {κ : KT} {xs : Nat → Int32} {Ln : Nat} {rec23 : Hp → Int32 → Option Int32} {A : Hp} {x1 : Nat} {x2 : Nat} {x3 : Nat} {x4 : Int32} {t0 : Int64} {t1 : Int64} {c n fu : Nat} (K : Cx κ cL_law 8 RL 14 540 601024 7293034) (E : EdW κ) (hX : SX κ Ln xs) (hc9 : c + fu * 423 + 0 ≤ 217462) (hn9 : n + fu * 8600 + 0 ≤ 4447408) (hr23 : ∀ (c n : Nat) (A : Hp) (x4 : Int32), c + fu * 423 ≤ 217462 → n + fu * 8600 ≤ 4447408 → rec23 A x4 = some 1 → Vw κ A c n 23 [(0, .inr (.inr 92)), (1, .inr (.inr x1)), (2, .inr (.inr x2)), (3, .inr (.inr x3)), (4, .inl x4)] []) (h : k_L_law_852 xs Ln rec23 A x1 x2 x3 x4 t0 t1 = some 1) : Vw κ A c n 852 [(0, .inr (.inr 92)), (1, .inr (.inr x1)), (2, .inr (.inr x2)), (3, .inr (.inr x3)), (4, .inl x4)] [.inr (.inl t1), .inr (.inl t0)] := by
  unfold k_L_law_852 at h
  refine Vw.lcmp_eq (pc := 852) (tgt := 858) K dL_law_852 dL_law_853 (by decide) (fun c147 => ?_) (fun c147 => ?_)
  · have h := wpos c147 h
    refine Vw.goto (pc := 858) (tgt := 2228) K dL_law_858 (by decide) ?_
    exact Vw.loc rfl (s_L_law_2228 K E hX (fu := fu) (by omega) (by omega) hr23 h)
  · have h := wneg c147 h
    refine Vw.iconst (pc := 856) (v := (0 : Int32)) K (by decide) dL_law_856 ?_
    exact Vw.lawret (pc := 857) K E h (by omega) (by omega) dL_law_857
def k_L_law_818 (xs : Nat → Int32) (Ln : Nat) (rec23 : Hp → Int32 → Option Int32) (A : Hp) (x1 : Nat) (x2 : Nat) (x3 : Nat) (x4 : Int32) (x5 : Int32) (t0 : Nat) (t1 : Int32) (t2 : Int32) (t3 : Int32) : Option Int32 := if (hsh A t0).1 = 8 then ((f_X9_wouldSend A t0 t1 t2 t3).bind fun p150 => if (hsh p150.2 x2).1 = 8 then ((f_X9_thrown p150.2 x2).bind fun v153 => (if v153 = x5 then (if x5 = (0 : Int32) then if (hsh p150.2 x3).1 = 11 then if wix (0 : Int32) (hsh p150.2 x3).2 then (if p150.1 = (0 : Int32) then k_L_law_852 xs Ln rec23 p150.2 x1 x2 x3 x4 (hgL p150.2 1035 x3 (0 : Int32).toNatClampNeg) (0 : Int64) else k_L_law_852 xs Ln rec23 p150.2 x1 x2 x3 x4 (hgL p150.2 1035 x3 (0 : Int32).toNatClampNeg) (1 : Int64)) else none else none else k_L_law_2228 xs Ln rec23 p150.2 x1 x2 x3 x4) else some (0 : Int32))) else none) else none
set_option maxRecDepth 100000 in
theorem s_L_law_818 {κ : KT} {xs : Nat → Int32} {Ln : Nat} {rec23 : Hp → Int32 → Option Int32} {A : Hp} {x1 : Nat} {x2 : Nat} {x3 : Nat} {x4 : Int32} {x5 : Int32} {t0 : Nat} {t1 : Int32} {t2 : Int32} {t3 : Int32} {c n fu : Nat} (K : Cx κ cL_law 8 RL 14 540 601024 7293034) (E : EdW κ) (hX : SX κ Ln xs) (hc9 : c + fu * 423 + 0 ≤ 217462) (hn9 : n + fu * 8600 + 0 ≤ 4447408) (hr23 : ∀ (c n : Nat) (A : Hp) (x4 : Int32), c + fu * 423 ≤ 217462 → n + fu * 8600 ≤ 4447408 → rec23 A x4 = some 1 → Vw κ A c n 23 [(0, .inr (.inr 92)), (1, .inr (.inr x1)), (2, .inr (.inr x2)), (3, .inr (.inr x3)), (4, .inl x4)] []) (h : k_L_law_818 xs Ln rec23 A x1 x2 x3 x4 x5 t0 t1 t2 t3 = some 1) : Vw κ A c n 818 [(0, .inr (.inr 92)), (1, .inr (.inr x1)), (2, .inr (.inr x2)), (3, .inr (.inr x3)), (4, .inl x4), (5, .inl x5)] [.inl t3, .inl t2, .inl t1, .inr (.inr t0)] := by
  unfold k_L_law_818 at h
  obtain ⟨g148, h⟩ := wgd h
  obtain ⟨p150, e149, h⟩ := wbd h
  refine Vw.cV1 (pc := 818) (v := .inl p150.1) (c' := c) (n' := n) K (s_X9_wouldSend K.tr e149) cal_X9_wouldSend cls7 u_7_199 g148 rfl ⟨by decide, by decide⟩ ⟨by omega, by omega⟩ rfl (Nat.le_of_ble_eq_true rfl) dL_law_818 rfl rfl ?_
  refine Vw.istore (pc := 821) K dL_law_821 (by decide) ?_
  refine Vw.aload_n (pc := 823) (x := x2) K dL_law_823 rfl ?_
  obtain ⟨g151, h⟩ := wgd h
  obtain ⟨v153, e152, h⟩ := wbd h
  refine Vw.cV1 (pc := 824) (v := .inl v153) (c' := c) (n' := n) K (s_X9_thrown K.tr e152) cal_X9_thrown cls7 u_6_134 g151 rfl ⟨by decide, by decide⟩ ⟨by omega, by omega⟩ rfl (Nat.le_of_ble_eq_true rfl) dL_law_824 rfl rfl ?_
  refine Vw.iload (pc := 827) (x := x5) K dL_law_827 rfl ?_
  refine Vw.icmp_eq (pc := 829) (tgt := 834) K dL_law_829 (by decide) (fun c154 => ?_) (fun c154 => ?_)
  · have h := wpos c154 h
    refine Vw.iload (pc := 834) (x := x5) K dL_law_834 rfl ?_
    refine Vw.if_ne (pc := 836) (tgt := 858) K dL_law_836 (by decide) (fun c155 => ?_) (fun c155 => ?_)
    · have h := wneg c155 h
      refine Vw.goto (pc := 858) (tgt := 2228) K dL_law_858 (by decide) ?_
      exact Vw.loc rfl (s_L_law_2228 K E hX (fu := fu) (by omega) (by omega) hr23 h)
    · have h := wpos c155 h
      refine Vw.aload_n (pc := 839) (x := x3) K dL_law_839 rfl ?_
      refine Vw.iconst (pc := 840) (v := (0 : Int32)) K (by decide) dL_law_840 ?_
      obtain ⟨g156, h⟩ := wgd h
      obtain ⟨g157, h⟩ := wgd h
      refine Vw.laload (pc := 841) K g156 g157 dL_law_841 ?_
      refine Vw.iload (pc := 842) (x := p150.1) K dL_law_842 rfl ?_
      refine Vw.if_eq (pc := 844) (tgt := 851) K dL_law_844 (by decide) (fun c158 => ?_) (fun c158 => ?_)
      · have h := wpos c158 h
        refine Vw.lconst (pc := 851) (v := (0 : Int64)) K (by decide) dL_law_851 ?_
        exact Vw.loc rfl (s_L_law_852 K E hX (fu := fu) (by omega) (by omega) hr23 h)
      · have h := wneg c158 h
        refine Vw.lconst (pc := 847) (v := (1 : Int64)) K (by decide) dL_law_847 ?_
        refine Vw.goto (pc := 848) (tgt := 852) K dL_law_848 (by decide) ?_
        exact Vw.loc rfl (s_L_law_852 K E hX (fu := fu) (by omega) (by omega) hr23 h)
  · have h := wneg c154 h
    refine Vw.iconst (pc := 832) (v := (0 : Int32)) K (by decide) dL_law_832 ?_
    exact Vw.lawret (pc := 833) K E h (by omega) (by omega) dL_law_833
def k_L_law_804 (xs : Nat → Int32) (Ln : Nat) (rec23 : Hp → Int32 → Option Int32) (A : Hp) (x1 : Nat) (x2 : Nat) (x3 : Nat) (x4 : Int32) (x5 : Int32) (t0 : Nat) (t1 : Int32) (t2 : Int32) : Option Int32 := if wix (x4 + (3 : Int32)) Ln then (if (xs (x4 + (3 : Int32)).toNatClampNeg) = (0 : Int32) then k_L_law_818 xs Ln rec23 A x1 x2 x3 x4 x5 t0 t1 t2 (0 : Int32) else k_L_law_818 xs Ln rec23 A x1 x2 x3 x4 x5 t0 t1 t2 (1 : Int32)) else none
set_option maxRecDepth 100000 in
theorem s_L_law_804 {κ : KT} {xs : Nat → Int32} {Ln : Nat} {rec23 : Hp → Int32 → Option Int32} {A : Hp} {x1 : Nat} {x2 : Nat} {x3 : Nat} {x4 : Int32} {x5 : Int32} {t0 : Nat} {t1 : Int32} {t2 : Int32} {c n fu : Nat} (K : Cx κ cL_law 8 RL 14 540 601024 7293034) (E : EdW κ) (hX : SX κ Ln xs) (hc9 : c + fu * 423 + 0 ≤ 217462) (hn9 : n + fu * 8600 + 0 ≤ 4447408) (hr23 : ∀ (c n : Nat) (A : Hp) (x4 : Int32), c + fu * 423 ≤ 217462 → n + fu * 8600 ≤ 4447408 → rec23 A x4 = some 1 → Vw κ A c n 23 [(0, .inr (.inr 92)), (1, .inr (.inr x1)), (2, .inr (.inr x2)), (3, .inr (.inr x3)), (4, .inl x4)] []) (h : k_L_law_804 xs Ln rec23 A x1 x2 x3 x4 x5 t0 t1 t2 = some 1) : Vw κ A c n 804 [(0, .inr (.inr 92)), (1, .inr (.inr x1)), (2, .inr (.inr x2)), (3, .inr (.inr x3)), (4, .inl x4), (5, .inl x5)] [.inl t2, .inl t1, .inr (.inr t0)] := by
  unfold k_L_law_804 at h
  refine Vw.aload_n (pc := 804) (x := 92) K dL_law_804 rfl ?_
  refine Vw.iload (pc := 805) (x := x4) K dL_law_805 rfl ?_
  refine Vw.iconst (pc := 807) (v := (3 : Int32)) K (by decide) dL_law_807 ?_
  refine Vw.iadd (pc := 808) K dL_law_808 ?_
  obtain ⟨g159, h⟩ := wgd h
  refine Vw.sld (pc := 809) K hX g159 dL_law_809 ?_
  refine Vw.if_eq (pc := 810) (tgt := 817) K dL_law_810 (by decide) (fun c160 => ?_) (fun c160 => ?_)
  · have h := wpos c160 h
    refine Vw.iconst (pc := 817) (v := (0 : Int32)) K (by decide) dL_law_817 ?_
    exact Vw.loc rfl (s_L_law_818 K E hX (fu := fu) (by omega) (by omega) hr23 h)
  · have h := wneg c160 h
    refine Vw.iconst (pc := 813) (v := (1 : Int32)) K (by decide) dL_law_813 ?_
    refine Vw.goto (pc := 814) (tgt := 818) K dL_law_814 (by decide) ?_
    exact Vw.loc rfl (s_L_law_818 K E hX (fu := fu) (by omega) (by omega) hr23 h)
def k_L_law_777 (xs : Nat → Int32) (Ln : Nat) (rec23 : Hp → Int32 → Option Int32) (A : Hp) (x1 : Nat) (x2 : Nat) (x3 : Nat) (x4 : Int32) (t0 : Nat) (t1 : Int32) (t2 : Int32) (t3 : Int32) : Option Int32 := ((f_L_wouldSend A t0 t1 t2 t3 x3).bind fun p162 => if wix (x4 + (1 : Int32)) Ln then if wix (x4 + (2 : Int32)) Ln then (if (xs (x4 + (2 : Int32)).toNatClampNeg) = (0 : Int32) then k_L_law_804 xs Ln rec23 p162.2 x1 x2 x3 x4 p162.1 x2 (xs (x4 + (1 : Int32)).toNatClampNeg) (0 : Int32) else k_L_law_804 xs Ln rec23 p162.2 x1 x2 x3 x4 p162.1 x2 (xs (x4 + (1 : Int32)).toNatClampNeg) (1 : Int32)) else none else none)
set_option maxRecDepth 100000 in
theorem s_L_law_777 {κ : KT} {xs : Nat → Int32} {Ln : Nat} {rec23 : Hp → Int32 → Option Int32} {A : Hp} {x1 : Nat} {x2 : Nat} {x3 : Nat} {x4 : Int32} {t0 : Nat} {t1 : Int32} {t2 : Int32} {t3 : Int32} {c n fu : Nat} (K : Cx κ cL_law 8 RL 14 540 601024 7293034) (E : EdW κ) (hX : SX κ Ln xs) (hc9 : c + fu * 423 + 2 ≤ 217462) (hn9 : n + fu * 8600 + 12 ≤ 4447408) (hr23 : ∀ (c n : Nat) (A : Hp) (x4 : Int32), c + fu * 423 ≤ 217462 → n + fu * 8600 ≤ 4447408 → rec23 A x4 = some 1 → Vw κ A c n 23 [(0, .inr (.inr 92)), (1, .inr (.inr x1)), (2, .inr (.inr x2)), (3, .inr (.inr x3)), (4, .inl x4)] []) (h : k_L_law_777 xs Ln rec23 A x1 x2 x3 x4 t0 t1 t2 t3 = some 1) : Vw κ A c n 777 [(0, .inr (.inr 92)), (1, .inr (.inr x1)), (2, .inr (.inr x2)), (3, .inr (.inr x3)), (4, .inl x4)] [.inl t3, .inl t2, .inl t1, .inr (.inr t0)] := by
  unfold k_L_law_777 at h
  refine Vw.aload_n (pc := 777) (x := x3) K dL_law_777 rfl ?_
  obtain ⟨p162, e161, h⟩ := wbd h
  refine Vw.cH1 (pc := 778) (v := .inl p162.1) (c' := c + 2) (n' := n + 12) K (s_L_wouldSend K.tr e161) cal_L_wouldSend u_5_40 rfl ⟨by decide, by decide⟩ ⟨by omega, by omega⟩ rfl (Nat.le_of_ble_eq_true rfl) dL_law_778 rfl rfl ?_
  refine Vw.istore (pc := 781) K dL_law_781 (by decide) ?_
  refine Vw.aload_n (pc := 783) (x := x2) K dL_law_783 rfl ?_
  refine Vw.aload_n (pc := 784) (x := 92) K dL_law_784 rfl ?_
  refine Vw.iload (pc := 785) (x := x4) K dL_law_785 rfl ?_
  refine Vw.iconst (pc := 787) (v := (1 : Int32)) K (by decide) dL_law_787 ?_
  refine Vw.iadd (pc := 788) K dL_law_788 ?_
  obtain ⟨g163, h⟩ := wgd h
  refine Vw.sld (pc := 789) K hX g163 dL_law_789 ?_
  refine Vw.aload_n (pc := 790) (x := 92) K dL_law_790 rfl ?_
  refine Vw.iload (pc := 791) (x := x4) K dL_law_791 rfl ?_
  refine Vw.iconst (pc := 793) (v := (2 : Int32)) K (by decide) dL_law_793 ?_
  refine Vw.iadd (pc := 794) K dL_law_794 ?_
  obtain ⟨g164, h⟩ := wgd h
  refine Vw.sld (pc := 795) K hX g164 dL_law_795 ?_
  refine Vw.if_eq (pc := 796) (tgt := 803) K dL_law_796 (by decide) (fun c165 => ?_) (fun c165 => ?_)
  · have h := wpos c165 h
    refine Vw.iconst (pc := 803) (v := (0 : Int32)) K (by decide) dL_law_803 ?_
    exact Vw.loc rfl (s_L_law_804 K E hX (fu := fu) (by omega) (by omega) hr23 h)
  · have h := wneg c165 h
    refine Vw.iconst (pc := 799) (v := (1 : Int32)) K (by decide) dL_law_799 ?_
    refine Vw.goto (pc := 800) (tgt := 804) K dL_law_800 (by decide) ?_
    exact Vw.loc rfl (s_L_law_804 K E hX (fu := fu) (by omega) (by omega) hr23 h)
def k_L_law_763 (xs : Nat → Int32) (Ln : Nat) (rec23 : Hp → Int32 → Option Int32) (A : Hp) (x1 : Nat) (x2 : Nat) (x3 : Nat) (x4 : Int32) (t0 : Nat) (t1 : Int32) (t2 : Int32) : Option Int32 := if wix (x4 + (3 : Int32)) Ln then (if (xs (x4 + (3 : Int32)).toNatClampNeg) = (0 : Int32) then k_L_law_777 xs Ln rec23 A x1 x2 x3 x4 t0 t1 t2 (0 : Int32) else k_L_law_777 xs Ln rec23 A x1 x2 x3 x4 t0 t1 t2 (1 : Int32)) else none
set_option maxRecDepth 100000 in
theorem s_L_law_763 {κ : KT} {xs : Nat → Int32} {Ln : Nat} {rec23 : Hp → Int32 → Option Int32} {A : Hp} {x1 : Nat} {x2 : Nat} {x3 : Nat} {x4 : Int32} {t0 : Nat} {t1 : Int32} {t2 : Int32} {c n fu : Nat} (K : Cx κ cL_law 8 RL 14 540 601024 7293034) (E : EdW κ) (hX : SX κ Ln xs) (hc9 : c + fu * 423 + 2 ≤ 217462) (hn9 : n + fu * 8600 + 12 ≤ 4447408) (hr23 : ∀ (c n : Nat) (A : Hp) (x4 : Int32), c + fu * 423 ≤ 217462 → n + fu * 8600 ≤ 4447408 → rec23 A x4 = some 1 → Vw κ A c n 23 [(0, .inr (.inr 92)), (1, .inr (.inr x1)), (2, .inr (.inr x2)), (3, .inr (.inr x3)), (4, .inl x4)] []) (h : k_L_law_763 xs Ln rec23 A x1 x2 x3 x4 t0 t1 t2 = some 1) : Vw κ A c n 763 [(0, .inr (.inr 92)), (1, .inr (.inr x1)), (2, .inr (.inr x2)), (3, .inr (.inr x3)), (4, .inl x4)] [.inl t2, .inl t1, .inr (.inr t0)] := by
  unfold k_L_law_763 at h
  refine Vw.aload_n (pc := 763) (x := 92) K dL_law_763 rfl ?_
  refine Vw.iload (pc := 764) (x := x4) K dL_law_764 rfl ?_
  refine Vw.iconst (pc := 766) (v := (3 : Int32)) K (by decide) dL_law_766 ?_
  refine Vw.iadd (pc := 767) K dL_law_767 ?_
  obtain ⟨g166, h⟩ := wgd h
  refine Vw.sld (pc := 768) K hX g166 dL_law_768 ?_
  refine Vw.if_eq (pc := 769) (tgt := 776) K dL_law_769 (by decide) (fun c167 => ?_) (fun c167 => ?_)
  · have h := wpos c167 h
    refine Vw.iconst (pc := 776) (v := (0 : Int32)) K (by decide) dL_law_776 ?_
    exact Vw.loc rfl (s_L_law_777 K E hX (fu := fu) (by omega) (by omega) hr23 h)
  · have h := wneg c167 h
    refine Vw.iconst (pc := 772) (v := (1 : Int32)) K (by decide) dL_law_772 ?_
    refine Vw.goto (pc := 773) (tgt := 777) K dL_law_773 (by decide) ?_
    exact Vw.loc rfl (s_L_law_777 K E hX (fu := fu) (by omega) (by omega) hr23 h)
def k_L_law_742 (xs : Nat → Int32) (Ln : Nat) (rec23 : Hp → Int32 → Option Int32) (A : Hp) (x1 : Nat) (x2 : Nat) (x3 : Nat) (x4 : Int32)  : Option Int32 := if wix (x4 + (1 : Int32)) Ln then if wix (x4 + (2 : Int32)) Ln then (if (xs (x4 + (2 : Int32)).toNatClampNeg) = (0 : Int32) then k_L_law_763 xs Ln rec23 A x1 x2 x3 x4 x1 (xs (x4 + (1 : Int32)).toNatClampNeg) (0 : Int32) else k_L_law_763 xs Ln rec23 A x1 x2 x3 x4 x1 (xs (x4 + (1 : Int32)).toNatClampNeg) (1 : Int32)) else none else none
set_option maxRecDepth 100000 in
theorem s_L_law_742 {κ : KT} {xs : Nat → Int32} {Ln : Nat} {rec23 : Hp → Int32 → Option Int32} {A : Hp} {x1 : Nat} {x2 : Nat} {x3 : Nat} {x4 : Int32}  {c n fu : Nat} (K : Cx κ cL_law 8 RL 14 540 601024 7293034) (E : EdW κ) (hX : SX κ Ln xs) (hc9 : c + fu * 423 + 2 ≤ 217462) (hn9 : n + fu * 8600 + 12 ≤ 4447408) (hr23 : ∀ (c n : Nat) (A : Hp) (x4 : Int32), c + fu * 423 ≤ 217462 → n + fu * 8600 ≤ 4447408 → rec23 A x4 = some 1 → Vw κ A c n 23 [(0, .inr (.inr 92)), (1, .inr (.inr x1)), (2, .inr (.inr x2)), (3, .inr (.inr x3)), (4, .inl x4)] []) (h : k_L_law_742 xs Ln rec23 A x1 x2 x3 x4  = some 1) : Vw κ A c n 742 [(0, .inr (.inr 92)), (1, .inr (.inr x1)), (2, .inr (.inr x2)), (3, .inr (.inr x3)), (4, .inl x4)] [] := by
  unfold k_L_law_742 at h
  refine Vw.aload_n (pc := 742) (x := x1) K dL_law_742 rfl ?_
  refine Vw.aload_n (pc := 743) (x := 92) K dL_law_743 rfl ?_
  refine Vw.iload (pc := 744) (x := x4) K dL_law_744 rfl ?_
  refine Vw.iconst (pc := 746) (v := (1 : Int32)) K (by decide) dL_law_746 ?_
  refine Vw.iadd (pc := 747) K dL_law_747 ?_
  obtain ⟨g168, h⟩ := wgd h
  refine Vw.sld (pc := 748) K hX g168 dL_law_748 ?_
  refine Vw.aload_n (pc := 749) (x := 92) K dL_law_749 rfl ?_
  refine Vw.iload (pc := 750) (x := x4) K dL_law_750 rfl ?_
  refine Vw.iconst (pc := 752) (v := (2 : Int32)) K (by decide) dL_law_752 ?_
  refine Vw.iadd (pc := 753) K dL_law_753 ?_
  obtain ⟨g169, h⟩ := wgd h
  refine Vw.sld (pc := 754) K hX g169 dL_law_754 ?_
  refine Vw.if_eq (pc := 755) (tgt := 762) K dL_law_755 (by decide) (fun c170 => ?_) (fun c170 => ?_)
  · have h := wpos c170 h
    refine Vw.iconst (pc := 762) (v := (0 : Int32)) K (by decide) dL_law_762 ?_
    exact Vw.loc rfl (s_L_law_763 K E hX (fu := fu) (by omega) (by omega) hr23 h)
  · have h := wneg c170 h
    refine Vw.iconst (pc := 758) (v := (1 : Int32)) K (by decide) dL_law_758 ?_
    refine Vw.goto (pc := 759) (tgt := 763) K dL_law_759 (by decide) ?_
    exact Vw.loc rfl (s_L_law_763 K E hX (fu := fu) (by omega) (by omega) hr23 h)
def k_L_law_861 (xs : Nat → Int32) (Ln : Nat) (rec23 : Hp → Int32 → Option Int32) (A : Hp) (x1 : Nat) (x2 : Nat) (x3 : Nat) (x4 : Int32)  : Option Int32 := if (hsh A x1).1 = 7 then ((f_X8_cookies A x1).bind fun v173 => if (hsh A x2).1 = 8 then ((f_X9_cookies A x2).bind fun p176 => (if v173 = p176.1 then k_L_law_2228 xs Ln rec23 p176.2 x1 x2 x3 x4 else some (0 : Int32))) else none) else none
set_option maxRecDepth 100000 in
theorem s_L_law_861 {κ : KT} {xs : Nat → Int32} {Ln : Nat} {rec23 : Hp → Int32 → Option Int32} {A : Hp} {x1 : Nat} {x2 : Nat} {x3 : Nat} {x4 : Int32}  {c n fu : Nat} (K : Cx κ cL_law 8 RL 14 540 601024 7293034) (E : EdW κ) (hX : SX κ Ln xs) (hc9 : c + fu * 423 + 0 ≤ 217462) (hn9 : n + fu * 8600 + 0 ≤ 4447408) (hr23 : ∀ (c n : Nat) (A : Hp) (x4 : Int32), c + fu * 423 ≤ 217462 → n + fu * 8600 ≤ 4447408 → rec23 A x4 = some 1 → Vw κ A c n 23 [(0, .inr (.inr 92)), (1, .inr (.inr x1)), (2, .inr (.inr x2)), (3, .inr (.inr x3)), (4, .inl x4)] []) (h : k_L_law_861 xs Ln rec23 A x1 x2 x3 x4  = some 1) : Vw κ A c n 861 [(0, .inr (.inr 92)), (1, .inr (.inr x1)), (2, .inr (.inr x2)), (3, .inr (.inr x3)), (4, .inl x4)] [] := by
  unfold k_L_law_861 at h
  refine Vw.aload_n (pc := 861) (x := x1) K dL_law_861 rfl ?_
  obtain ⟨g171, h⟩ := wgd h
  obtain ⟨v173, e172, h⟩ := wbd h
  refine Vw.cV1 (pc := 862) (v := .inl v173) (c' := c) (n' := n) K (s_X8_cookies K.tr e172) cal_X8_cookies cls6 u_2_192 g171 rfl ⟨by decide, by decide⟩ ⟨by omega, by omega⟩ rfl (Nat.le_of_ble_eq_true rfl) dL_law_862 rfl rfl ?_
  refine Vw.aload_n (pc := 865) (x := x2) K dL_law_865 rfl ?_
  obtain ⟨g174, h⟩ := wgd h
  obtain ⟨p176, e175, h⟩ := wbd h
  refine Vw.cV1 (pc := 866) (v := .inl p176.1) (c' := c) (n' := n) K (s_X9_cookies K.tr e175) cal_X9_cookies cls7 u_7_223 g174 rfl ⟨by decide, by decide⟩ ⟨by omega, by omega⟩ rfl (Nat.le_of_ble_eq_true rfl) dL_law_866 rfl rfl ?_
  refine Vw.icmp_eq (pc := 869) (tgt := 2228) K dL_law_869 (by decide) (fun c177 => ?_) (fun c177 => ?_)
  · have h := wpos c177 h
    exact Vw.loc rfl (s_L_law_2228 K E hX (fu := fu) (by omega) (by omega) hr23 h)
  · have h := wneg c177 h
    refine Vw.iconst (pc := 872) (v := (0 : Int32)) K (by decide) dL_law_872 ?_
    exact Vw.lawret (pc := 873) K E h (by omega) (by omega) dL_law_873
def k_L_law_874 (xs : Nat → Int32) (Ln : Nat) (rec23 : Hp → Int32 → Option Int32) (A : Hp) (x1 : Nat) (x2 : Nat) (x3 : Nat) (x4 : Int32)  : Option Int32 := if wix (x4 + (1 : Int32)) Ln then if wix (x4 + (2 : Int32)) Ln then ((f_L_nameChar A x1 (xs (x4 + (1 : Int32)).toNatClampNeg) (xs (x4 + (2 : Int32)).toNatClampNeg) x3).bind fun p181 => if wix (x4 + (1 : Int32)) Ln then if wix (x4 + (2 : Int32)) Ln then if (hsh p181.2 x2).1 = 8 then ((f_X9_nameChar p181.2 x2 (xs (x4 + (1 : Int32)).toNatClampNeg) (xs (x4 + (2 : Int32)).toNatClampNeg)).bind fun p186 => if (hsh p186.2 x2).1 = 8 then ((f_X9_thrown p186.2 x2).bind fun v189 => (if v189 = p181.1 then (if p181.1 = (0 : Int32) then if (hsh p186.2 x3).1 = 11 then if wix (0 : Int32) (hsh p186.2 x3).2 then (if (hgL p186.2 1035 x3 (0 : Int32).toNatClampNeg) = p186.1.toInt64 then k_L_law_2228 xs Ln rec23 p186.2 x1 x2 x3 x4 else some (0 : Int32)) else none else none else k_L_law_2228 xs Ln rec23 p186.2 x1 x2 x3 x4) else some (0 : Int32))) else none) else none else none else none) else none else none
set_option maxRecDepth 100000 in
theorem s_L_law_874 {κ : KT} {xs : Nat → Int32} {Ln : Nat} {rec23 : Hp → Int32 → Option Int32} {A : Hp} {x1 : Nat} {x2 : Nat} {x3 : Nat} {x4 : Int32}  {c n fu : Nat} (K : Cx κ cL_law 8 RL 14 540 601024 7293034) (E : EdW κ) (hX : SX κ Ln xs) (hc9 : c + fu * 423 + 2 ≤ 217462) (hn9 : n + fu * 8600 + 12 ≤ 4447408) (hr23 : ∀ (c n : Nat) (A : Hp) (x4 : Int32), c + fu * 423 ≤ 217462 → n + fu * 8600 ≤ 4447408 → rec23 A x4 = some 1 → Vw κ A c n 23 [(0, .inr (.inr 92)), (1, .inr (.inr x1)), (2, .inr (.inr x2)), (3, .inr (.inr x3)), (4, .inl x4)] []) (h : k_L_law_874 xs Ln rec23 A x1 x2 x3 x4  = some 1) : Vw κ A c n 874 [(0, .inr (.inr 92)), (1, .inr (.inr x1)), (2, .inr (.inr x2)), (3, .inr (.inr x3)), (4, .inl x4)] [] := by
  unfold k_L_law_874 at h
  refine Vw.aload_n (pc := 874) (x := x1) K dL_law_874 rfl ?_
  refine Vw.aload_n (pc := 875) (x := 92) K dL_law_875 rfl ?_
  refine Vw.iload (pc := 876) (x := x4) K dL_law_876 rfl ?_
  refine Vw.iconst (pc := 878) (v := (1 : Int32)) K (by decide) dL_law_878 ?_
  refine Vw.iadd (pc := 879) K dL_law_879 ?_
  obtain ⟨g178, h⟩ := wgd h
  refine Vw.sld (pc := 880) K hX g178 dL_law_880 ?_
  refine Vw.aload_n (pc := 881) (x := 92) K dL_law_881 rfl ?_
  refine Vw.iload (pc := 882) (x := x4) K dL_law_882 rfl ?_
  refine Vw.iconst (pc := 884) (v := (2 : Int32)) K (by decide) dL_law_884 ?_
  refine Vw.iadd (pc := 885) K dL_law_885 ?_
  obtain ⟨g179, h⟩ := wgd h
  refine Vw.sld (pc := 886) K hX g179 dL_law_886 ?_
  refine Vw.aload_n (pc := 887) (x := x3) K dL_law_887 rfl ?_
  obtain ⟨p181, e180, h⟩ := wbd h
  refine Vw.cH1 (pc := 888) (v := .inl p181.1) (c' := c + 2) (n' := n + 12) K (s_L_nameChar K.tr e180) cal_L_nameChar u_5_57 rfl ⟨by decide, by decide⟩ ⟨by omega, by omega⟩ rfl (Nat.le_of_ble_eq_true rfl) dL_law_888 rfl rfl ?_
  refine Vw.istore (pc := 891) K dL_law_891 (by decide) ?_
  refine Vw.aload_n (pc := 893) (x := x2) K dL_law_893 rfl ?_
  refine Vw.aload_n (pc := 894) (x := 92) K dL_law_894 rfl ?_
  refine Vw.iload (pc := 895) (x := x4) K dL_law_895 rfl ?_
  refine Vw.iconst (pc := 897) (v := (1 : Int32)) K (by decide) dL_law_897 ?_
  refine Vw.iadd (pc := 898) K dL_law_898 ?_
  obtain ⟨g182, h⟩ := wgd h
  refine Vw.sld (pc := 899) K hX g182 dL_law_899 ?_
  refine Vw.aload_n (pc := 900) (x := 92) K dL_law_900 rfl ?_
  refine Vw.iload (pc := 901) (x := x4) K dL_law_901 rfl ?_
  refine Vw.iconst (pc := 903) (v := (2 : Int32)) K (by decide) dL_law_903 ?_
  refine Vw.iadd (pc := 904) K dL_law_904 ?_
  obtain ⟨g183, h⟩ := wgd h
  refine Vw.sld (pc := 905) K hX g183 dL_law_905 ?_
  obtain ⟨g184, h⟩ := wgd h
  obtain ⟨p186, e185, h⟩ := wbd h
  refine Vw.cV1 (pc := 906) (v := .inl p186.1) (c' := c + 2) (n' := n + 12) K (s_X9_nameChar K.tr e185) cal_X9_nameChar cls7 u_7_227 g184 rfl ⟨by decide, by decide⟩ ⟨by omega, by omega⟩ rfl (Nat.le_of_ble_eq_true rfl) dL_law_906 rfl rfl ?_
  refine Vw.istore (pc := 909) K dL_law_909 (by decide) ?_
  refine Vw.aload_n (pc := 911) (x := x2) K dL_law_911 rfl ?_
  obtain ⟨g187, h⟩ := wgd h
  obtain ⟨v189, e188, h⟩ := wbd h
  refine Vw.cV1 (pc := 912) (v := .inl v189) (c' := c + 2) (n' := n + 12) K (s_X9_thrown K.tr e188) cal_X9_thrown cls7 u_6_134 g187 rfl ⟨by decide, by decide⟩ ⟨by omega, by omega⟩ rfl (Nat.le_of_ble_eq_true rfl) dL_law_912 rfl rfl ?_
  refine Vw.iload (pc := 915) (x := p181.1) K dL_law_915 rfl ?_
  refine Vw.icmp_eq (pc := 917) (tgt := 922) K dL_law_917 (by decide) (fun c190 => ?_) (fun c190 => ?_)
  · have h := wpos c190 h
    refine Vw.iload (pc := 922) (x := p181.1) K dL_law_922 rfl ?_
    refine Vw.if_ne (pc := 924) (tgt := 939) K dL_law_924 (by decide) (fun c191 => ?_) (fun c191 => ?_)
    · have h := wneg c191 h
      refine Vw.goto (pc := 939) (tgt := 2228) K dL_law_939 (by decide) ?_
      exact Vw.loc rfl (s_L_law_2228 K E hX (fu := fu) (by omega) (by omega) hr23 h)
    · have h := wpos c191 h
      refine Vw.aload_n (pc := 927) (x := x3) K dL_law_927 rfl ?_
      refine Vw.iconst (pc := 928) (v := (0 : Int32)) K (by decide) dL_law_928 ?_
      obtain ⟨g192, h⟩ := wgd h
      obtain ⟨g193, h⟩ := wgd h
      refine Vw.laload (pc := 929) K g192 g193 dL_law_929 ?_
      refine Vw.iload (pc := 930) (x := p186.1) K dL_law_930 rfl ?_
      refine Vw.i2l (pc := 932) K dL_law_932 ?_
      refine Vw.lcmp_eq (pc := 933) (tgt := 939) K dL_law_933 dL_law_934 (by decide) (fun c194 => ?_) (fun c194 => ?_)
      · have h := wpos c194 h
        refine Vw.goto (pc := 939) (tgt := 2228) K dL_law_939 (by decide) ?_
        exact Vw.loc rfl (s_L_law_2228 K E hX (fu := fu) (by omega) (by omega) hr23 h)
      · have h := wneg c194 h
        refine Vw.iconst (pc := 937) (v := (0 : Int32)) K (by decide) dL_law_937 ?_
        exact Vw.lawret (pc := 938) K E h (by omega) (by omega) dL_law_938
  · have h := wneg c190 h
    refine Vw.iconst (pc := 920) (v := (0 : Int32)) K (by decide) dL_law_920 ?_
    exact Vw.lawret (pc := 921) K E h (by omega) (by omega) dL_law_921
def k_L_law_942 (xs : Nat → Int32) (Ln : Nat) (rec23 : Hp → Int32 → Option Int32) (A : Hp) (x1 : Nat) (x2 : Nat) (x3 : Nat) (x4 : Int32)  : Option Int32 := if wix (x4 + (1 : Int32)) Ln then if wix (x4 + (2 : Int32)) Ln then ((f_L_valueChar A x1 (xs (x4 + (1 : Int32)).toNatClampNeg) (xs (x4 + (2 : Int32)).toNatClampNeg) x3).bind fun p198 => if wix (x4 + (1 : Int32)) Ln then if wix (x4 + (2 : Int32)) Ln then if (hsh p198.2 x2).1 = 8 then ((f_X9_valueChar p198.2 x2 (xs (x4 + (1 : Int32)).toNatClampNeg) (xs (x4 + (2 : Int32)).toNatClampNeg)).bind fun p203 => if (hsh p203.2 x2).1 = 8 then ((f_X9_thrown p203.2 x2).bind fun v206 => (if v206 = p198.1 then (if p198.1 = (0 : Int32) then if (hsh p203.2 x3).1 = 11 then if wix (0 : Int32) (hsh p203.2 x3).2 then (if (hgL p203.2 1035 x3 (0 : Int32).toNatClampNeg) = p203.1.toInt64 then k_L_law_2228 xs Ln rec23 p203.2 x1 x2 x3 x4 else some (0 : Int32)) else none else none else k_L_law_2228 xs Ln rec23 p203.2 x1 x2 x3 x4) else some (0 : Int32))) else none) else none else none else none) else none else none
set_option maxRecDepth 100000 in
theorem s_L_law_942 {κ : KT} {xs : Nat → Int32} {Ln : Nat} {rec23 : Hp → Int32 → Option Int32} {A : Hp} {x1 : Nat} {x2 : Nat} {x3 : Nat} {x4 : Int32}  {c n fu : Nat} (K : Cx κ cL_law 8 RL 14 540 601024 7293034) (E : EdW κ) (hX : SX κ Ln xs) (hc9 : c + fu * 423 + 2 ≤ 217462) (hn9 : n + fu * 8600 + 12 ≤ 4447408) (hr23 : ∀ (c n : Nat) (A : Hp) (x4 : Int32), c + fu * 423 ≤ 217462 → n + fu * 8600 ≤ 4447408 → rec23 A x4 = some 1 → Vw κ A c n 23 [(0, .inr (.inr 92)), (1, .inr (.inr x1)), (2, .inr (.inr x2)), (3, .inr (.inr x3)), (4, .inl x4)] []) (h : k_L_law_942 xs Ln rec23 A x1 x2 x3 x4  = some 1) : Vw κ A c n 942 [(0, .inr (.inr 92)), (1, .inr (.inr x1)), (2, .inr (.inr x2)), (3, .inr (.inr x3)), (4, .inl x4)] [] := by
  unfold k_L_law_942 at h
  refine Vw.aload_n (pc := 942) (x := x1) K dL_law_942 rfl ?_
  refine Vw.aload_n (pc := 943) (x := 92) K dL_law_943 rfl ?_
  refine Vw.iload (pc := 944) (x := x4) K dL_law_944 rfl ?_
  refine Vw.iconst (pc := 946) (v := (1 : Int32)) K (by decide) dL_law_946 ?_
  refine Vw.iadd (pc := 947) K dL_law_947 ?_
  obtain ⟨g195, h⟩ := wgd h
  refine Vw.sld (pc := 948) K hX g195 dL_law_948 ?_
  refine Vw.aload_n (pc := 949) (x := 92) K dL_law_949 rfl ?_
  refine Vw.iload (pc := 950) (x := x4) K dL_law_950 rfl ?_
  refine Vw.iconst (pc := 952) (v := (2 : Int32)) K (by decide) dL_law_952 ?_
  refine Vw.iadd (pc := 953) K dL_law_953 ?_
  obtain ⟨g196, h⟩ := wgd h
  refine Vw.sld (pc := 954) K hX g196 dL_law_954 ?_
  refine Vw.aload_n (pc := 955) (x := x3) K dL_law_955 rfl ?_
  obtain ⟨p198, e197, h⟩ := wbd h
  refine Vw.cH1 (pc := 956) (v := .inl p198.1) (c' := c + 2) (n' := n + 12) K (s_L_valueChar K.tr e197) cal_L_valueChar u_5_64 rfl ⟨by decide, by decide⟩ ⟨by omega, by omega⟩ rfl (Nat.le_of_ble_eq_true rfl) dL_law_956 rfl rfl ?_
  refine Vw.istore (pc := 959) K dL_law_959 (by decide) ?_
  refine Vw.aload_n (pc := 961) (x := x2) K dL_law_961 rfl ?_
  refine Vw.aload_n (pc := 962) (x := 92) K dL_law_962 rfl ?_
  refine Vw.iload (pc := 963) (x := x4) K dL_law_963 rfl ?_
  refine Vw.iconst (pc := 965) (v := (1 : Int32)) K (by decide) dL_law_965 ?_
  refine Vw.iadd (pc := 966) K dL_law_966 ?_
  obtain ⟨g199, h⟩ := wgd h
  refine Vw.sld (pc := 967) K hX g199 dL_law_967 ?_
  refine Vw.aload_n (pc := 968) (x := 92) K dL_law_968 rfl ?_
  refine Vw.iload (pc := 969) (x := x4) K dL_law_969 rfl ?_
  refine Vw.iconst (pc := 971) (v := (2 : Int32)) K (by decide) dL_law_971 ?_
  refine Vw.iadd (pc := 972) K dL_law_972 ?_
  obtain ⟨g200, h⟩ := wgd h
  refine Vw.sld (pc := 973) K hX g200 dL_law_973 ?_
  obtain ⟨g201, h⟩ := wgd h
  obtain ⟨p203, e202, h⟩ := wbd h
  refine Vw.cV1 (pc := 974) (v := .inl p203.1) (c' := c + 2) (n' := n + 12) K (s_X9_valueChar K.tr e202) cal_X9_valueChar cls7 u_7_239 g201 rfl ⟨by decide, by decide⟩ ⟨by omega, by omega⟩ rfl (Nat.le_of_ble_eq_true rfl) dL_law_974 rfl rfl ?_
  refine Vw.istore (pc := 977) K dL_law_977 (by decide) ?_
  refine Vw.aload_n (pc := 979) (x := x2) K dL_law_979 rfl ?_
  obtain ⟨g204, h⟩ := wgd h
  obtain ⟨v206, e205, h⟩ := wbd h
  refine Vw.cV1 (pc := 980) (v := .inl v206) (c' := c + 2) (n' := n + 12) K (s_X9_thrown K.tr e205) cal_X9_thrown cls7 u_6_134 g204 rfl ⟨by decide, by decide⟩ ⟨by omega, by omega⟩ rfl (Nat.le_of_ble_eq_true rfl) dL_law_980 rfl rfl ?_
  refine Vw.iload (pc := 983) (x := p198.1) K dL_law_983 rfl ?_
  refine Vw.icmp_eq (pc := 985) (tgt := 990) K dL_law_985 (by decide) (fun c207 => ?_) (fun c207 => ?_)
  · have h := wpos c207 h
    refine Vw.iload (pc := 990) (x := p198.1) K dL_law_990 rfl ?_
    refine Vw.if_ne (pc := 992) (tgt := 1007) K dL_law_992 (by decide) (fun c208 => ?_) (fun c208 => ?_)
    · have h := wneg c208 h
      refine Vw.goto (pc := 1007) (tgt := 2228) K dL_law_1007 (by decide) ?_
      exact Vw.loc rfl (s_L_law_2228 K E hX (fu := fu) (by omega) (by omega) hr23 h)
    · have h := wpos c208 h
      refine Vw.aload_n (pc := 995) (x := x3) K dL_law_995 rfl ?_
      refine Vw.iconst (pc := 996) (v := (0 : Int32)) K (by decide) dL_law_996 ?_
      obtain ⟨g209, h⟩ := wgd h
      obtain ⟨g210, h⟩ := wgd h
      refine Vw.laload (pc := 997) K g209 g210 dL_law_997 ?_
      refine Vw.iload (pc := 998) (x := p203.1) K dL_law_998 rfl ?_
      refine Vw.i2l (pc := 1000) K dL_law_1000 ?_
      refine Vw.lcmp_eq (pc := 1001) (tgt := 1007) K dL_law_1001 dL_law_1002 (by decide) (fun c211 => ?_) (fun c211 => ?_)
      · have h := wpos c211 h
        refine Vw.goto (pc := 1007) (tgt := 2228) K dL_law_1007 (by decide) ?_
        exact Vw.loc rfl (s_L_law_2228 K E hX (fu := fu) (by omega) (by omega) hr23 h)
      · have h := wneg c211 h
        refine Vw.iconst (pc := 1005) (v := (0 : Int32)) K (by decide) dL_law_1005 ?_
        exact Vw.lawret (pc := 1006) K E h (by omega) (by omega) dL_law_1006
  · have h := wneg c207 h
    refine Vw.iconst (pc := 988) (v := (0 : Int32)) K (by decide) dL_law_988 ?_
    exact Vw.lawret (pc := 989) K E h (by omega) (by omega) dL_law_989
def k_L_law_1010 (xs : Nat → Int32) (Ln : Nat) (rec23 : Hp → Int32 → Option Int32) (A : Hp) (x1 : Nat) (x2 : Nat) (x3 : Nat) (x4 : Int32)  : Option Int32 := if wix (x4 + (1 : Int32)) Ln then if wix (x4 + (2 : Int32)) Ln then ((f_L_domainChar A x1 (xs (x4 + (1 : Int32)).toNatClampNeg) (xs (x4 + (2 : Int32)).toNatClampNeg) x3).bind fun p215 => if wix (x4 + (1 : Int32)) Ln then if wix (x4 + (2 : Int32)) Ln then if (hsh p215.2 x2).1 = 8 then ((f_X9_domainChar p215.2 x2 (xs (x4 + (1 : Int32)).toNatClampNeg) (xs (x4 + (2 : Int32)).toNatClampNeg)).bind fun p220 => if (hsh p220.2 x2).1 = 8 then ((f_X9_thrown p220.2 x2).bind fun v223 => (if v223 = p215.1 then (if p215.1 = (0 : Int32) then if (hsh p220.2 x3).1 = 11 then if wix (0 : Int32) (hsh p220.2 x3).2 then (if (hgL p220.2 1035 x3 (0 : Int32).toNatClampNeg) = p220.1.toInt64 then k_L_law_2228 xs Ln rec23 p220.2 x1 x2 x3 x4 else some (0 : Int32)) else none else none else k_L_law_2228 xs Ln rec23 p220.2 x1 x2 x3 x4) else some (0 : Int32))) else none) else none else none else none) else none else none
set_option maxRecDepth 100000 in
theorem s_L_law_1010 {κ : KT} {xs : Nat → Int32} {Ln : Nat} {rec23 : Hp → Int32 → Option Int32} {A : Hp} {x1 : Nat} {x2 : Nat} {x3 : Nat} {x4 : Int32}  {c n fu : Nat} (K : Cx κ cL_law 8 RL 14 540 601024 7293034) (E : EdW κ) (hX : SX κ Ln xs) (hc9 : c + fu * 423 + 2 ≤ 217462) (hn9 : n + fu * 8600 + 12 ≤ 4447408) (hr23 : ∀ (c n : Nat) (A : Hp) (x4 : Int32), c + fu * 423 ≤ 217462 → n + fu * 8600 ≤ 4447408 → rec23 A x4 = some 1 → Vw κ A c n 23 [(0, .inr (.inr 92)), (1, .inr (.inr x1)), (2, .inr (.inr x2)), (3, .inr (.inr x3)), (4, .inl x4)] []) (h : k_L_law_1010 xs Ln rec23 A x1 x2 x3 x4  = some 1) : Vw κ A c n 1010 [(0, .inr (.inr 92)), (1, .inr (.inr x1)), (2, .inr (.inr x2)), (3, .inr (.inr x3)), (4, .inl x4)] [] := by
  unfold k_L_law_1010 at h
  refine Vw.aload_n (pc := 1010) (x := x1) K dL_law_1010 rfl ?_
  refine Vw.aload_n (pc := 1011) (x := 92) K dL_law_1011 rfl ?_
  refine Vw.iload (pc := 1012) (x := x4) K dL_law_1012 rfl ?_
  refine Vw.iconst (pc := 1014) (v := (1 : Int32)) K (by decide) dL_law_1014 ?_
  refine Vw.iadd (pc := 1015) K dL_law_1015 ?_
  obtain ⟨g212, h⟩ := wgd h
  refine Vw.sld (pc := 1016) K hX g212 dL_law_1016 ?_
  refine Vw.aload_n (pc := 1017) (x := 92) K dL_law_1017 rfl ?_
  refine Vw.iload (pc := 1018) (x := x4) K dL_law_1018 rfl ?_
  refine Vw.iconst (pc := 1020) (v := (2 : Int32)) K (by decide) dL_law_1020 ?_
  refine Vw.iadd (pc := 1021) K dL_law_1021 ?_
  obtain ⟨g213, h⟩ := wgd h
  refine Vw.sld (pc := 1022) K hX g213 dL_law_1022 ?_
  refine Vw.aload_n (pc := 1023) (x := x3) K dL_law_1023 rfl ?_
  obtain ⟨p215, e214, h⟩ := wbd h
  refine Vw.cH1 (pc := 1024) (v := .inl p215.1) (c' := c + 2) (n' := n + 12) K (s_L_domainChar K.tr e214) cal_L_domainChar u_5_71 rfl ⟨by decide, by decide⟩ ⟨by omega, by omega⟩ rfl (Nat.le_of_ble_eq_true rfl) dL_law_1024 rfl rfl ?_
  refine Vw.istore (pc := 1027) K dL_law_1027 (by decide) ?_
  refine Vw.aload_n (pc := 1029) (x := x2) K dL_law_1029 rfl ?_
  refine Vw.aload_n (pc := 1030) (x := 92) K dL_law_1030 rfl ?_
  refine Vw.iload (pc := 1031) (x := x4) K dL_law_1031 rfl ?_
  refine Vw.iconst (pc := 1033) (v := (1 : Int32)) K (by decide) dL_law_1033 ?_
  refine Vw.iadd (pc := 1034) K dL_law_1034 ?_
  obtain ⟨g216, h⟩ := wgd h
  refine Vw.sld (pc := 1035) K hX g216 dL_law_1035 ?_
  refine Vw.aload_n (pc := 1036) (x := 92) K dL_law_1036 rfl ?_
  refine Vw.iload (pc := 1037) (x := x4) K dL_law_1037 rfl ?_
  refine Vw.iconst (pc := 1039) (v := (2 : Int32)) K (by decide) dL_law_1039 ?_
  refine Vw.iadd (pc := 1040) K dL_law_1040 ?_
  obtain ⟨g217, h⟩ := wgd h
  refine Vw.sld (pc := 1041) K hX g217 dL_law_1041 ?_
  obtain ⟨g218, h⟩ := wgd h
  obtain ⟨p220, e219, h⟩ := wbd h
  refine Vw.cV1 (pc := 1042) (v := .inl p220.1) (c' := c + 2) (n' := n + 12) K (s_X9_domainChar K.tr e219) cal_X9_domainChar cls7 u_8_3 g218 rfl ⟨by decide, by decide⟩ ⟨by omega, by omega⟩ rfl (Nat.le_of_ble_eq_true rfl) dL_law_1042 rfl rfl ?_
  refine Vw.istore (pc := 1045) K dL_law_1045 (by decide) ?_
  refine Vw.aload_n (pc := 1047) (x := x2) K dL_law_1047 rfl ?_
  obtain ⟨g221, h⟩ := wgd h
  obtain ⟨v223, e222, h⟩ := wbd h
  refine Vw.cV1 (pc := 1048) (v := .inl v223) (c' := c + 2) (n' := n + 12) K (s_X9_thrown K.tr e222) cal_X9_thrown cls7 u_6_134 g221 rfl ⟨by decide, by decide⟩ ⟨by omega, by omega⟩ rfl (Nat.le_of_ble_eq_true rfl) dL_law_1048 rfl rfl ?_
  refine Vw.iload (pc := 1051) (x := p215.1) K dL_law_1051 rfl ?_
  refine Vw.icmp_eq (pc := 1053) (tgt := 1058) K dL_law_1053 (by decide) (fun c224 => ?_) (fun c224 => ?_)
  · have h := wpos c224 h
    refine Vw.iload (pc := 1058) (x := p215.1) K dL_law_1058 rfl ?_
    refine Vw.if_ne (pc := 1060) (tgt := 1075) K dL_law_1060 (by decide) (fun c225 => ?_) (fun c225 => ?_)
    · have h := wneg c225 h
      refine Vw.goto (pc := 1075) (tgt := 2228) K dL_law_1075 (by decide) ?_
      exact Vw.loc rfl (s_L_law_2228 K E hX (fu := fu) (by omega) (by omega) hr23 h)
    · have h := wpos c225 h
      refine Vw.aload_n (pc := 1063) (x := x3) K dL_law_1063 rfl ?_
      refine Vw.iconst (pc := 1064) (v := (0 : Int32)) K (by decide) dL_law_1064 ?_
      obtain ⟨g226, h⟩ := wgd h
      obtain ⟨g227, h⟩ := wgd h
      refine Vw.laload (pc := 1065) K g226 g227 dL_law_1065 ?_
      refine Vw.iload (pc := 1066) (x := p220.1) K dL_law_1066 rfl ?_
      refine Vw.i2l (pc := 1068) K dL_law_1068 ?_
      refine Vw.lcmp_eq (pc := 1069) (tgt := 1075) K dL_law_1069 dL_law_1070 (by decide) (fun c228 => ?_) (fun c228 => ?_)
      · have h := wpos c228 h
        refine Vw.goto (pc := 1075) (tgt := 2228) K dL_law_1075 (by decide) ?_
        exact Vw.loc rfl (s_L_law_2228 K E hX (fu := fu) (by omega) (by omega) hr23 h)
      · have h := wneg c228 h
        refine Vw.iconst (pc := 1073) (v := (0 : Int32)) K (by decide) dL_law_1073 ?_
        exact Vw.lawret (pc := 1074) K E h (by omega) (by omega) dL_law_1074
  · have h := wneg c224 h
    refine Vw.iconst (pc := 1056) (v := (0 : Int32)) K (by decide) dL_law_1056 ?_
    exact Vw.lawret (pc := 1057) K E h (by omega) (by omega) dL_law_1057
def k_L_law_1078 (xs : Nat → Int32) (Ln : Nat) (rec23 : Hp → Int32 → Option Int32) (A : Hp) (x1 : Nat) (x2 : Nat) (x3 : Nat) (x4 : Int32)  : Option Int32 := if wix (x4 + (1 : Int32)) Ln then if wix (x4 + (2 : Int32)) Ln then ((f_L_pathChar A x1 (xs (x4 + (1 : Int32)).toNatClampNeg) (xs (x4 + (2 : Int32)).toNatClampNeg) x3).bind fun p232 => if wix (x4 + (1 : Int32)) Ln then if wix (x4 + (2 : Int32)) Ln then if (hsh p232.2 x2).1 = 8 then ((f_X9_pathChar p232.2 x2 (xs (x4 + (1 : Int32)).toNatClampNeg) (xs (x4 + (2 : Int32)).toNatClampNeg)).bind fun p237 => if (hsh p237.2 x2).1 = 8 then ((f_X9_thrown p237.2 x2).bind fun v240 => (if v240 = p232.1 then (if p232.1 = (0 : Int32) then if (hsh p237.2 x3).1 = 11 then if wix (0 : Int32) (hsh p237.2 x3).2 then (if (hgL p237.2 1035 x3 (0 : Int32).toNatClampNeg) = p237.1.toInt64 then k_L_law_2228 xs Ln rec23 p237.2 x1 x2 x3 x4 else some (0 : Int32)) else none else none else k_L_law_2228 xs Ln rec23 p237.2 x1 x2 x3 x4) else some (0 : Int32))) else none) else none else none else none) else none else none
set_option maxRecDepth 100000 in
theorem s_L_law_1078 {κ : KT} {xs : Nat → Int32} {Ln : Nat} {rec23 : Hp → Int32 → Option Int32} {A : Hp} {x1 : Nat} {x2 : Nat} {x3 : Nat} {x4 : Int32}  {c n fu : Nat} (K : Cx κ cL_law 8 RL 14 540 601024 7293034) (E : EdW κ) (hX : SX κ Ln xs) (hc9 : c + fu * 423 + 2 ≤ 217462) (hn9 : n + fu * 8600 + 12 ≤ 4447408) (hr23 : ∀ (c n : Nat) (A : Hp) (x4 : Int32), c + fu * 423 ≤ 217462 → n + fu * 8600 ≤ 4447408 → rec23 A x4 = some 1 → Vw κ A c n 23 [(0, .inr (.inr 92)), (1, .inr (.inr x1)), (2, .inr (.inr x2)), (3, .inr (.inr x3)), (4, .inl x4)] []) (h : k_L_law_1078 xs Ln rec23 A x1 x2 x3 x4  = some 1) : Vw κ A c n 1078 [(0, .inr (.inr 92)), (1, .inr (.inr x1)), (2, .inr (.inr x2)), (3, .inr (.inr x3)), (4, .inl x4)] [] := by
  unfold k_L_law_1078 at h
  refine Vw.aload_n (pc := 1078) (x := x1) K dL_law_1078 rfl ?_
  refine Vw.aload_n (pc := 1079) (x := 92) K dL_law_1079 rfl ?_
  refine Vw.iload (pc := 1080) (x := x4) K dL_law_1080 rfl ?_
  refine Vw.iconst (pc := 1082) (v := (1 : Int32)) K (by decide) dL_law_1082 ?_
  refine Vw.iadd (pc := 1083) K dL_law_1083 ?_
  obtain ⟨g229, h⟩ := wgd h
  refine Vw.sld (pc := 1084) K hX g229 dL_law_1084 ?_
  refine Vw.aload_n (pc := 1085) (x := 92) K dL_law_1085 rfl ?_
  refine Vw.iload (pc := 1086) (x := x4) K dL_law_1086 rfl ?_
  refine Vw.iconst (pc := 1088) (v := (2 : Int32)) K (by decide) dL_law_1088 ?_
  refine Vw.iadd (pc := 1089) K dL_law_1089 ?_
  obtain ⟨g230, h⟩ := wgd h
  refine Vw.sld (pc := 1090) K hX g230 dL_law_1090 ?_
  refine Vw.aload_n (pc := 1091) (x := x3) K dL_law_1091 rfl ?_
  obtain ⟨p232, e231, h⟩ := wbd h
  refine Vw.cH1 (pc := 1092) (v := .inl p232.1) (c' := c + 2) (n' := n + 12) K (s_L_pathChar K.tr e231) cal_L_pathChar u_5_78 rfl ⟨by decide, by decide⟩ ⟨by omega, by omega⟩ rfl (Nat.le_of_ble_eq_true rfl) dL_law_1092 rfl rfl ?_
  refine Vw.istore (pc := 1095) K dL_law_1095 (by decide) ?_
  refine Vw.aload_n (pc := 1097) (x := x2) K dL_law_1097 rfl ?_
  refine Vw.aload_n (pc := 1098) (x := 92) K dL_law_1098 rfl ?_
  refine Vw.iload (pc := 1099) (x := x4) K dL_law_1099 rfl ?_
  refine Vw.iconst (pc := 1101) (v := (1 : Int32)) K (by decide) dL_law_1101 ?_
  refine Vw.iadd (pc := 1102) K dL_law_1102 ?_
  obtain ⟨g233, h⟩ := wgd h
  refine Vw.sld (pc := 1103) K hX g233 dL_law_1103 ?_
  refine Vw.aload_n (pc := 1104) (x := 92) K dL_law_1104 rfl ?_
  refine Vw.iload (pc := 1105) (x := x4) K dL_law_1105 rfl ?_
  refine Vw.iconst (pc := 1107) (v := (2 : Int32)) K (by decide) dL_law_1107 ?_
  refine Vw.iadd (pc := 1108) K dL_law_1108 ?_
  obtain ⟨g234, h⟩ := wgd h
  refine Vw.sld (pc := 1109) K hX g234 dL_law_1109 ?_
  obtain ⟨g235, h⟩ := wgd h
  obtain ⟨p237, e236, h⟩ := wbd h
  refine Vw.cV1 (pc := 1110) (v := .inl p237.1) (c' := c + 2) (n' := n + 12) K (s_X9_pathChar K.tr e236) cal_X9_pathChar cls7 u_8_7 g235 rfl ⟨by decide, by decide⟩ ⟨by omega, by omega⟩ rfl (Nat.le_of_ble_eq_true rfl) dL_law_1110 rfl rfl ?_
  refine Vw.istore (pc := 1113) K dL_law_1113 (by decide) ?_
  refine Vw.aload_n (pc := 1115) (x := x2) K dL_law_1115 rfl ?_
  obtain ⟨g238, h⟩ := wgd h
  obtain ⟨v240, e239, h⟩ := wbd h
  refine Vw.cV1 (pc := 1116) (v := .inl v240) (c' := c + 2) (n' := n + 12) K (s_X9_thrown K.tr e239) cal_X9_thrown cls7 u_6_134 g238 rfl ⟨by decide, by decide⟩ ⟨by omega, by omega⟩ rfl (Nat.le_of_ble_eq_true rfl) dL_law_1116 rfl rfl ?_
  refine Vw.iload (pc := 1119) (x := p232.1) K dL_law_1119 rfl ?_
  refine Vw.icmp_eq (pc := 1121) (tgt := 1126) K dL_law_1121 (by decide) (fun c241 => ?_) (fun c241 => ?_)
  · have h := wpos c241 h
    refine Vw.iload (pc := 1126) (x := p232.1) K dL_law_1126 rfl ?_
    refine Vw.if_ne (pc := 1128) (tgt := 1143) K dL_law_1128 (by decide) (fun c242 => ?_) (fun c242 => ?_)
    · have h := wneg c242 h
      refine Vw.goto (pc := 1143) (tgt := 2228) K dL_law_1143 (by decide) ?_
      exact Vw.loc rfl (s_L_law_2228 K E hX (fu := fu) (by omega) (by omega) hr23 h)
    · have h := wpos c242 h
      refine Vw.aload_n (pc := 1131) (x := x3) K dL_law_1131 rfl ?_
      refine Vw.iconst (pc := 1132) (v := (0 : Int32)) K (by decide) dL_law_1132 ?_
      obtain ⟨g243, h⟩ := wgd h
      obtain ⟨g244, h⟩ := wgd h
      refine Vw.laload (pc := 1133) K g243 g244 dL_law_1133 ?_
      refine Vw.iload (pc := 1134) (x := p237.1) K dL_law_1134 rfl ?_
      refine Vw.i2l (pc := 1136) K dL_law_1136 ?_
      refine Vw.lcmp_eq (pc := 1137) (tgt := 1143) K dL_law_1137 dL_law_1138 (by decide) (fun c245 => ?_) (fun c245 => ?_)
      · have h := wpos c245 h
        refine Vw.goto (pc := 1143) (tgt := 2228) K dL_law_1143 (by decide) ?_
        exact Vw.loc rfl (s_L_law_2228 K E hX (fu := fu) (by omega) (by omega) hr23 h)
      · have h := wneg c245 h
        refine Vw.iconst (pc := 1141) (v := (0 : Int32)) K (by decide) dL_law_1141 ?_
        exact Vw.lawret (pc := 1142) K E h (by omega) (by omega) dL_law_1142
  · have h := wneg c241 h
    refine Vw.iconst (pc := 1124) (v := (0 : Int32)) K (by decide) dL_law_1124 ?_
    exact Vw.lawret (pc := 1125) K E h (by omega) (by omega) dL_law_1125
def k_L_law_1146 (xs : Nat → Int32) (Ln : Nat) (rec23 : Hp → Int32 → Option Int32) (A : Hp) (x1 : Nat) (x2 : Nat) (x3 : Nat) (x4 : Int32)  : Option Int32 := if wix (x4 + (1 : Int32)) Ln then ((f_L_expiry A x1 (xs (x4 + (1 : Int32)).toNatClampNeg) x3).bind fun p248 => if wix (x4 + (1 : Int32)) Ln then if (hsh p248.2 x2).1 = 8 then ((f_X9_expiry p248.2 x2 (xs (x4 + (1 : Int32)).toNatClampNeg)).bind fun p252 => if (hsh p252.2 x2).1 = 8 then ((f_X9_thrown p252.2 x2).bind fun v255 => (if v255 = p248.1 then (if p248.1 = (0 : Int32) then if (hsh p252.2 x3).1 = 11 then if wix (0 : Int32) (hsh p252.2 x3).2 then (if (hgL p252.2 1035 x3 (0 : Int32).toNatClampNeg) = p252.1 then k_L_law_2228 xs Ln rec23 p252.2 x1 x2 x3 x4 else some (0 : Int32)) else none else none else k_L_law_2228 xs Ln rec23 p252.2 x1 x2 x3 x4) else some (0 : Int32))) else none) else none else none) else none
set_option maxRecDepth 100000 in
theorem s_L_law_1146 {κ : KT} {xs : Nat → Int32} {Ln : Nat} {rec23 : Hp → Int32 → Option Int32} {A : Hp} {x1 : Nat} {x2 : Nat} {x3 : Nat} {x4 : Int32}  {c n fu : Nat} (K : Cx κ cL_law 8 RL 14 540 601024 7293034) (E : EdW κ) (hX : SX κ Ln xs) (hc9 : c + fu * 423 + 1 ≤ 217462) (hn9 : n + fu * 8600 + 6 ≤ 4447408) (hr23 : ∀ (c n : Nat) (A : Hp) (x4 : Int32), c + fu * 423 ≤ 217462 → n + fu * 8600 ≤ 4447408 → rec23 A x4 = some 1 → Vw κ A c n 23 [(0, .inr (.inr 92)), (1, .inr (.inr x1)), (2, .inr (.inr x2)), (3, .inr (.inr x3)), (4, .inl x4)] []) (h : k_L_law_1146 xs Ln rec23 A x1 x2 x3 x4  = some 1) : Vw κ A c n 1146 [(0, .inr (.inr 92)), (1, .inr (.inr x1)), (2, .inr (.inr x2)), (3, .inr (.inr x3)), (4, .inl x4)] [] := by
  unfold k_L_law_1146 at h
  refine Vw.aload_n (pc := 1146) (x := x1) K dL_law_1146 rfl ?_
  refine Vw.aload_n (pc := 1147) (x := 92) K dL_law_1147 rfl ?_
  refine Vw.iload (pc := 1148) (x := x4) K dL_law_1148 rfl ?_
  refine Vw.iconst (pc := 1150) (v := (1 : Int32)) K (by decide) dL_law_1150 ?_
  refine Vw.iadd (pc := 1151) K dL_law_1151 ?_
  obtain ⟨g246, h⟩ := wgd h
  refine Vw.sld (pc := 1152) K hX g246 dL_law_1152 ?_
  refine Vw.aload_n (pc := 1153) (x := x3) K dL_law_1153 rfl ?_
  obtain ⟨p248, e247, h⟩ := wbd h
  refine Vw.cH1 (pc := 1154) (v := .inl p248.1) (c' := c + 1) (n' := n + 6) K (s_L_expiry K.tr e247) cal_L_expiry u_5_85 rfl ⟨by decide, by decide⟩ ⟨by omega, by omega⟩ rfl (Nat.le_of_ble_eq_true rfl) dL_law_1154 rfl rfl ?_
  refine Vw.istore (pc := 1157) K dL_law_1157 (by decide) ?_
  refine Vw.aload_n (pc := 1159) (x := x2) K dL_law_1159 rfl ?_
  refine Vw.aload_n (pc := 1160) (x := 92) K dL_law_1160 rfl ?_
  refine Vw.iload (pc := 1161) (x := x4) K dL_law_1161 rfl ?_
  refine Vw.iconst (pc := 1163) (v := (1 : Int32)) K (by decide) dL_law_1163 ?_
  refine Vw.iadd (pc := 1164) K dL_law_1164 ?_
  obtain ⟨g249, h⟩ := wgd h
  refine Vw.sld (pc := 1165) K hX g249 dL_law_1165 ?_
  obtain ⟨g250, h⟩ := wgd h
  obtain ⟨p252, e251, h⟩ := wbd h
  refine Vw.cV1 (pc := 1166) (v := .inr (.inl p252.1)) (c' := c + 1) (n' := n + 6) K (s_X9_expiry K.tr e251) cal_X9_expiry cls7 u_8_11 g250 rfl ⟨by decide, by decide⟩ ⟨by omega, by omega⟩ rfl (Nat.le_of_ble_eq_true rfl) dL_law_1166 rfl rfl ?_
  refine Vw.lstore (pc := 1169) K dL_law_1169 (by decide) ?_
  refine Vw.aload_n (pc := 1171) (x := x2) K dL_law_1171 rfl ?_
  obtain ⟨g253, h⟩ := wgd h
  obtain ⟨v255, e254, h⟩ := wbd h
  refine Vw.cV1 (pc := 1172) (v := .inl v255) (c' := c + 1) (n' := n + 6) K (s_X9_thrown K.tr e254) cal_X9_thrown cls7 u_6_134 g253 rfl ⟨by decide, by decide⟩ ⟨by omega, by omega⟩ rfl (Nat.le_of_ble_eq_true rfl) dL_law_1172 rfl rfl ?_
  refine Vw.iload (pc := 1175) (x := p248.1) K dL_law_1175 rfl ?_
  refine Vw.icmp_eq (pc := 1177) (tgt := 1182) K dL_law_1177 (by decide) (fun c256 => ?_) (fun c256 => ?_)
  · have h := wpos c256 h
    refine Vw.iload (pc := 1182) (x := p248.1) K dL_law_1182 rfl ?_
    refine Vw.if_ne (pc := 1184) (tgt := 1198) K dL_law_1184 (by decide) (fun c257 => ?_) (fun c257 => ?_)
    · have h := wneg c257 h
      refine Vw.goto (pc := 1198) (tgt := 2228) K dL_law_1198 (by decide) ?_
      exact Vw.loc rfl (s_L_law_2228 K E hX (fu := fu) (by omega) (by omega) hr23 h)
    · have h := wpos c257 h
      refine Vw.aload_n (pc := 1187) (x := x3) K dL_law_1187 rfl ?_
      refine Vw.iconst (pc := 1188) (v := (0 : Int32)) K (by decide) dL_law_1188 ?_
      obtain ⟨g258, h⟩ := wgd h
      obtain ⟨g259, h⟩ := wgd h
      refine Vw.laload (pc := 1189) K g258 g259 dL_law_1189 ?_
      refine Vw.lload (pc := 1190) (x := p252.1) K dL_law_1190 rfl ?_
      refine Vw.lcmp_eq (pc := 1192) (tgt := 1198) K dL_law_1192 dL_law_1193 (by decide) (fun c260 => ?_) (fun c260 => ?_)
      · have h := wpos c260 h
        refine Vw.goto (pc := 1198) (tgt := 2228) K dL_law_1198 (by decide) ?_
        exact Vw.loc rfl (s_L_law_2228 K E hX (fu := fu) (by omega) (by omega) hr23 h)
      · have h := wneg c260 h
        refine Vw.iconst (pc := 1196) (v := (0 : Int32)) K (by decide) dL_law_1196 ?_
        exact Vw.lawret (pc := 1197) K E h (by omega) (by omega) dL_law_1197
  · have h := wneg c256 h
    refine Vw.iconst (pc := 1180) (v := (0 : Int32)) K (by decide) dL_law_1180 ?_
    exact Vw.lawret (pc := 1181) K E h (by omega) (by omega) dL_law_1181
def k_L_law_1201 (xs : Nat → Int32) (Ln : Nat) (rec23 : Hp → Int32 → Option Int32) (A : Hp) (x1 : Nat) (x2 : Nat) (x3 : Nat) (x4 : Int32)  : Option Int32 := if wix (x4 + (1 : Int32)) Ln then ((f_L_created A x1 (xs (x4 + (1 : Int32)).toNatClampNeg) x3).bind fun p263 => if wix (x4 + (1 : Int32)) Ln then if (hsh p263.2 x2).1 = 8 then ((f_X9_created p263.2 x2 (xs (x4 + (1 : Int32)).toNatClampNeg)).bind fun p267 => if (hsh p267.2 x2).1 = 8 then ((f_X9_thrown p267.2 x2).bind fun v270 => (if v270 = p263.1 then (if p263.1 = (0 : Int32) then if (hsh p267.2 x3).1 = 11 then if wix (0 : Int32) (hsh p267.2 x3).2 then (if (hgL p267.2 1035 x3 (0 : Int32).toNatClampNeg) = p267.1 then k_L_law_2228 xs Ln rec23 p267.2 x1 x2 x3 x4 else some (0 : Int32)) else none else none else k_L_law_2228 xs Ln rec23 p267.2 x1 x2 x3 x4) else some (0 : Int32))) else none) else none else none) else none
set_option maxRecDepth 100000 in
theorem s_L_law_1201 {κ : KT} {xs : Nat → Int32} {Ln : Nat} {rec23 : Hp → Int32 → Option Int32} {A : Hp} {x1 : Nat} {x2 : Nat} {x3 : Nat} {x4 : Int32}  {c n fu : Nat} (K : Cx κ cL_law 8 RL 14 540 601024 7293034) (E : EdW κ) (hX : SX κ Ln xs) (hc9 : c + fu * 423 + 1 ≤ 217462) (hn9 : n + fu * 8600 + 6 ≤ 4447408) (hr23 : ∀ (c n : Nat) (A : Hp) (x4 : Int32), c + fu * 423 ≤ 217462 → n + fu * 8600 ≤ 4447408 → rec23 A x4 = some 1 → Vw κ A c n 23 [(0, .inr (.inr 92)), (1, .inr (.inr x1)), (2, .inr (.inr x2)), (3, .inr (.inr x3)), (4, .inl x4)] []) (h : k_L_law_1201 xs Ln rec23 A x1 x2 x3 x4  = some 1) : Vw κ A c n 1201 [(0, .inr (.inr 92)), (1, .inr (.inr x1)), (2, .inr (.inr x2)), (3, .inr (.inr x3)), (4, .inl x4)] [] := by
  unfold k_L_law_1201 at h
  refine Vw.aload_n (pc := 1201) (x := x1) K dL_law_1201 rfl ?_
  refine Vw.aload_n (pc := 1202) (x := 92) K dL_law_1202 rfl ?_
  refine Vw.iload (pc := 1203) (x := x4) K dL_law_1203 rfl ?_
  refine Vw.iconst (pc := 1205) (v := (1 : Int32)) K (by decide) dL_law_1205 ?_
  refine Vw.iadd (pc := 1206) K dL_law_1206 ?_
  obtain ⟨g261, h⟩ := wgd h
  refine Vw.sld (pc := 1207) K hX g261 dL_law_1207 ?_
  refine Vw.aload_n (pc := 1208) (x := x3) K dL_law_1208 rfl ?_
  obtain ⟨p263, e262, h⟩ := wbd h
  refine Vw.cH1 (pc := 1209) (v := .inl p263.1) (c' := c + 1) (n' := n + 6) K (s_L_created K.tr e262) cal_L_created u_5_92 rfl ⟨by decide, by decide⟩ ⟨by omega, by omega⟩ rfl (Nat.le_of_ble_eq_true rfl) dL_law_1209 rfl rfl ?_
  refine Vw.istore (pc := 1212) K dL_law_1212 (by decide) ?_
  refine Vw.aload_n (pc := 1214) (x := x2) K dL_law_1214 rfl ?_
  refine Vw.aload_n (pc := 1215) (x := 92) K dL_law_1215 rfl ?_
  refine Vw.iload (pc := 1216) (x := x4) K dL_law_1216 rfl ?_
  refine Vw.iconst (pc := 1218) (v := (1 : Int32)) K (by decide) dL_law_1218 ?_
  refine Vw.iadd (pc := 1219) K dL_law_1219 ?_
  obtain ⟨g264, h⟩ := wgd h
  refine Vw.sld (pc := 1220) K hX g264 dL_law_1220 ?_
  obtain ⟨g265, h⟩ := wgd h
  obtain ⟨p267, e266, h⟩ := wbd h
  refine Vw.cV1 (pc := 1221) (v := .inr (.inl p267.1)) (c' := c + 1) (n' := n + 6) K (s_X9_created K.tr e266) cal_X9_created cls7 u_8_19 g265 rfl ⟨by decide, by decide⟩ ⟨by omega, by omega⟩ rfl (Nat.le_of_ble_eq_true rfl) dL_law_1221 rfl rfl ?_
  refine Vw.lstore (pc := 1224) K dL_law_1224 (by decide) ?_
  refine Vw.aload_n (pc := 1226) (x := x2) K dL_law_1226 rfl ?_
  obtain ⟨g268, h⟩ := wgd h
  obtain ⟨v270, e269, h⟩ := wbd h
  refine Vw.cV1 (pc := 1227) (v := .inl v270) (c' := c + 1) (n' := n + 6) K (s_X9_thrown K.tr e269) cal_X9_thrown cls7 u_6_134 g268 rfl ⟨by decide, by decide⟩ ⟨by omega, by omega⟩ rfl (Nat.le_of_ble_eq_true rfl) dL_law_1227 rfl rfl ?_
  refine Vw.iload (pc := 1230) (x := p263.1) K dL_law_1230 rfl ?_
  refine Vw.icmp_eq (pc := 1232) (tgt := 1237) K dL_law_1232 (by decide) (fun c271 => ?_) (fun c271 => ?_)
  · have h := wpos c271 h
    refine Vw.iload (pc := 1237) (x := p263.1) K dL_law_1237 rfl ?_
    refine Vw.if_ne (pc := 1239) (tgt := 1253) K dL_law_1239 (by decide) (fun c272 => ?_) (fun c272 => ?_)
    · have h := wneg c272 h
      refine Vw.goto (pc := 1253) (tgt := 2228) K dL_law_1253 (by decide) ?_
      exact Vw.loc rfl (s_L_law_2228 K E hX (fu := fu) (by omega) (by omega) hr23 h)
    · have h := wpos c272 h
      refine Vw.aload_n (pc := 1242) (x := x3) K dL_law_1242 rfl ?_
      refine Vw.iconst (pc := 1243) (v := (0 : Int32)) K (by decide) dL_law_1243 ?_
      obtain ⟨g273, h⟩ := wgd h
      obtain ⟨g274, h⟩ := wgd h
      refine Vw.laload (pc := 1244) K g273 g274 dL_law_1244 ?_
      refine Vw.lload (pc := 1245) (x := p267.1) K dL_law_1245 rfl ?_
      refine Vw.lcmp_eq (pc := 1247) (tgt := 1253) K dL_law_1247 dL_law_1248 (by decide) (fun c275 => ?_) (fun c275 => ?_)
      · have h := wpos c275 h
        refine Vw.goto (pc := 1253) (tgt := 2228) K dL_law_1253 (by decide) ?_
        exact Vw.loc rfl (s_L_law_2228 K E hX (fu := fu) (by omega) (by omega) hr23 h)
      · have h := wneg c275 h
        refine Vw.iconst (pc := 1251) (v := (0 : Int32)) K (by decide) dL_law_1251 ?_
        exact Vw.lawret (pc := 1252) K E h (by omega) (by omega) dL_law_1252
  · have h := wneg c271 h
    refine Vw.iconst (pc := 1235) (v := (0 : Int32)) K (by decide) dL_law_1235 ?_
    exact Vw.lawret (pc := 1236) K E h (by omega) (by omega) dL_law_1236
def k_L_law_1256 (xs : Nat → Int32) (Ln : Nat) (rec23 : Hp → Int32 → Option Int32) (A : Hp) (x1 : Nat) (x2 : Nat) (x3 : Nat) (x4 : Int32)  : Option Int32 := if wix (x4 + (1 : Int32)) Ln then ((f_L_accessed A x1 (xs (x4 + (1 : Int32)).toNatClampNeg) x3).bind fun p278 => if wix (x4 + (1 : Int32)) Ln then if (hsh p278.2 x2).1 = 8 then ((f_X9_accessed p278.2 x2 (xs (x4 + (1 : Int32)).toNatClampNeg)).bind fun p282 => if (hsh p282.2 x2).1 = 8 then ((f_X9_thrown p282.2 x2).bind fun v285 => (if v285 = p278.1 then (if p278.1 = (0 : Int32) then if (hsh p282.2 x3).1 = 11 then if wix (0 : Int32) (hsh p282.2 x3).2 then (if (hgL p282.2 1035 x3 (0 : Int32).toNatClampNeg) = p282.1 then k_L_law_2228 xs Ln rec23 p282.2 x1 x2 x3 x4 else some (0 : Int32)) else none else none else k_L_law_2228 xs Ln rec23 p282.2 x1 x2 x3 x4) else some (0 : Int32))) else none) else none else none) else none
set_option maxRecDepth 100000 in
theorem s_L_law_1256 {κ : KT} {xs : Nat → Int32} {Ln : Nat} {rec23 : Hp → Int32 → Option Int32} {A : Hp} {x1 : Nat} {x2 : Nat} {x3 : Nat} {x4 : Int32}  {c n fu : Nat} (K : Cx κ cL_law 8 RL 14 540 601024 7293034) (E : EdW κ) (hX : SX κ Ln xs) (hc9 : c + fu * 423 + 1 ≤ 217462) (hn9 : n + fu * 8600 + 6 ≤ 4447408) (hr23 : ∀ (c n : Nat) (A : Hp) (x4 : Int32), c + fu * 423 ≤ 217462 → n + fu * 8600 ≤ 4447408 → rec23 A x4 = some 1 → Vw κ A c n 23 [(0, .inr (.inr 92)), (1, .inr (.inr x1)), (2, .inr (.inr x2)), (3, .inr (.inr x3)), (4, .inl x4)] []) (h : k_L_law_1256 xs Ln rec23 A x1 x2 x3 x4  = some 1) : Vw κ A c n 1256 [(0, .inr (.inr 92)), (1, .inr (.inr x1)), (2, .inr (.inr x2)), (3, .inr (.inr x3)), (4, .inl x4)] [] := by
  unfold k_L_law_1256 at h
  refine Vw.aload_n (pc := 1256) (x := x1) K dL_law_1256 rfl ?_
  refine Vw.aload_n (pc := 1257) (x := 92) K dL_law_1257 rfl ?_
  refine Vw.iload (pc := 1258) (x := x4) K dL_law_1258 rfl ?_
  refine Vw.iconst (pc := 1260) (v := (1 : Int32)) K (by decide) dL_law_1260 ?_
  refine Vw.iadd (pc := 1261) K dL_law_1261 ?_
  obtain ⟨g276, h⟩ := wgd h
  refine Vw.sld (pc := 1262) K hX g276 dL_law_1262 ?_
  refine Vw.aload_n (pc := 1263) (x := x3) K dL_law_1263 rfl ?_
  obtain ⟨p278, e277, h⟩ := wbd h
  refine Vw.cH1 (pc := 1264) (v := .inl p278.1) (c' := c + 1) (n' := n + 6) K (s_L_accessed K.tr e277) cal_L_accessed u_5_99 rfl ⟨by decide, by decide⟩ ⟨by omega, by omega⟩ rfl (Nat.le_of_ble_eq_true rfl) dL_law_1264 rfl rfl ?_
  refine Vw.istore (pc := 1267) K dL_law_1267 (by decide) ?_
  refine Vw.aload_n (pc := 1269) (x := x2) K dL_law_1269 rfl ?_
  refine Vw.aload_n (pc := 1270) (x := 92) K dL_law_1270 rfl ?_
  refine Vw.iload (pc := 1271) (x := x4) K dL_law_1271 rfl ?_
  refine Vw.iconst (pc := 1273) (v := (1 : Int32)) K (by decide) dL_law_1273 ?_
  refine Vw.iadd (pc := 1274) K dL_law_1274 ?_
  obtain ⟨g279, h⟩ := wgd h
  refine Vw.sld (pc := 1275) K hX g279 dL_law_1275 ?_
  obtain ⟨g280, h⟩ := wgd h
  obtain ⟨p282, e281, h⟩ := wbd h
  refine Vw.cV1 (pc := 1276) (v := .inr (.inl p282.1)) (c' := c + 1) (n' := n + 6) K (s_X9_accessed K.tr e281) cal_X9_accessed cls7 u_8_23 g280 rfl ⟨by decide, by decide⟩ ⟨by omega, by omega⟩ rfl (Nat.le_of_ble_eq_true rfl) dL_law_1276 rfl rfl ?_
  refine Vw.lstore (pc := 1279) K dL_law_1279 (by decide) ?_
  refine Vw.aload_n (pc := 1281) (x := x2) K dL_law_1281 rfl ?_
  obtain ⟨g283, h⟩ := wgd h
  obtain ⟨v285, e284, h⟩ := wbd h
  refine Vw.cV1 (pc := 1282) (v := .inl v285) (c' := c + 1) (n' := n + 6) K (s_X9_thrown K.tr e284) cal_X9_thrown cls7 u_6_134 g283 rfl ⟨by decide, by decide⟩ ⟨by omega, by omega⟩ rfl (Nat.le_of_ble_eq_true rfl) dL_law_1282 rfl rfl ?_
  refine Vw.iload (pc := 1285) (x := p278.1) K dL_law_1285 rfl ?_
  refine Vw.icmp_eq (pc := 1287) (tgt := 1292) K dL_law_1287 (by decide) (fun c286 => ?_) (fun c286 => ?_)
  · have h := wpos c286 h
    refine Vw.iload (pc := 1292) (x := p278.1) K dL_law_1292 rfl ?_
    refine Vw.if_ne (pc := 1294) (tgt := 1308) K dL_law_1294 (by decide) (fun c287 => ?_) (fun c287 => ?_)
    · have h := wneg c287 h
      refine Vw.goto (pc := 1308) (tgt := 2228) K dL_law_1308 (by decide) ?_
      exact Vw.loc rfl (s_L_law_2228 K E hX (fu := fu) (by omega) (by omega) hr23 h)
    · have h := wpos c287 h
      refine Vw.aload_n (pc := 1297) (x := x3) K dL_law_1297 rfl ?_
      refine Vw.iconst (pc := 1298) (v := (0 : Int32)) K (by decide) dL_law_1298 ?_
      obtain ⟨g288, h⟩ := wgd h
      obtain ⟨g289, h⟩ := wgd h
      refine Vw.laload (pc := 1299) K g288 g289 dL_law_1299 ?_
      refine Vw.lload (pc := 1300) (x := p282.1) K dL_law_1300 rfl ?_
      refine Vw.lcmp_eq (pc := 1302) (tgt := 1308) K dL_law_1302 dL_law_1303 (by decide) (fun c290 => ?_) (fun c290 => ?_)
      · have h := wpos c290 h
        refine Vw.goto (pc := 1308) (tgt := 2228) K dL_law_1308 (by decide) ?_
        exact Vw.loc rfl (s_L_law_2228 K E hX (fu := fu) (by omega) (by omega) hr23 h)
      · have h := wneg c290 h
        refine Vw.iconst (pc := 1306) (v := (0 : Int32)) K (by decide) dL_law_1306 ?_
        exact Vw.lawret (pc := 1307) K E h (by omega) (by omega) dL_law_1307
  · have h := wneg c286 h
    refine Vw.iconst (pc := 1290) (v := (0 : Int32)) K (by decide) dL_law_1290 ?_
    exact Vw.lawret (pc := 1291) K E h (by omega) (by omega) dL_law_1291
def k_L_law_1311 (xs : Nat → Int32) (Ln : Nat) (rec23 : Hp → Int32 → Option Int32) (A : Hp) (x1 : Nat) (x2 : Nat) (x3 : Nat) (x4 : Int32)  : Option Int32 := if wix (x4 + (1 : Int32)) Ln then ((f_L_serial A x1 (xs (x4 + (1 : Int32)).toNatClampNeg) x3).bind fun p293 => if wix (x4 + (1 : Int32)) Ln then if (hsh p293.2 x2).1 = 8 then ((f_X9_serial p293.2 x2 (xs (x4 + (1 : Int32)).toNatClampNeg)).bind fun p297 => if (hsh p297.2 x2).1 = 8 then ((f_X9_thrown p297.2 x2).bind fun v300 => (if v300 = p293.1 then (if p293.1 = (0 : Int32) then if (hsh p297.2 x3).1 = 11 then if wix (0 : Int32) (hsh p297.2 x3).2 then (if (hgL p297.2 1035 x3 (0 : Int32).toNatClampNeg) = p297.1.toInt64 then k_L_law_2228 xs Ln rec23 p297.2 x1 x2 x3 x4 else some (0 : Int32)) else none else none else k_L_law_2228 xs Ln rec23 p297.2 x1 x2 x3 x4) else some (0 : Int32))) else none) else none else none) else none
set_option maxRecDepth 100000 in
theorem s_L_law_1311 {κ : KT} {xs : Nat → Int32} {Ln : Nat} {rec23 : Hp → Int32 → Option Int32} {A : Hp} {x1 : Nat} {x2 : Nat} {x3 : Nat} {x4 : Int32}  {c n fu : Nat} (K : Cx κ cL_law 8 RL 14 540 601024 7293034) (E : EdW κ) (hX : SX κ Ln xs) (hc9 : c + fu * 423 + 1 ≤ 217462) (hn9 : n + fu * 8600 + 6 ≤ 4447408) (hr23 : ∀ (c n : Nat) (A : Hp) (x4 : Int32), c + fu * 423 ≤ 217462 → n + fu * 8600 ≤ 4447408 → rec23 A x4 = some 1 → Vw κ A c n 23 [(0, .inr (.inr 92)), (1, .inr (.inr x1)), (2, .inr (.inr x2)), (3, .inr (.inr x3)), (4, .inl x4)] []) (h : k_L_law_1311 xs Ln rec23 A x1 x2 x3 x4  = some 1) : Vw κ A c n 1311 [(0, .inr (.inr 92)), (1, .inr (.inr x1)), (2, .inr (.inr x2)), (3, .inr (.inr x3)), (4, .inl x4)] [] := by
  unfold k_L_law_1311 at h
  refine Vw.aload_n (pc := 1311) (x := x1) K dL_law_1311 rfl ?_
  refine Vw.aload_n (pc := 1312) (x := 92) K dL_law_1312 rfl ?_
  refine Vw.iload (pc := 1313) (x := x4) K dL_law_1313 rfl ?_
  refine Vw.iconst (pc := 1315) (v := (1 : Int32)) K (by decide) dL_law_1315 ?_
  refine Vw.iadd (pc := 1316) K dL_law_1316 ?_
  obtain ⟨g291, h⟩ := wgd h
  refine Vw.sld (pc := 1317) K hX g291 dL_law_1317 ?_
  refine Vw.aload_n (pc := 1318) (x := x3) K dL_law_1318 rfl ?_
  obtain ⟨p293, e292, h⟩ := wbd h
  refine Vw.cH1 (pc := 1319) (v := .inl p293.1) (c' := c + 1) (n' := n + 6) K (s_L_serial K.tr e292) cal_L_serial u_5_106 rfl ⟨by decide, by decide⟩ ⟨by omega, by omega⟩ rfl (Nat.le_of_ble_eq_true rfl) dL_law_1319 rfl rfl ?_
  refine Vw.istore (pc := 1322) K dL_law_1322 (by decide) ?_
  refine Vw.aload_n (pc := 1324) (x := x2) K dL_law_1324 rfl ?_
  refine Vw.aload_n (pc := 1325) (x := 92) K dL_law_1325 rfl ?_
  refine Vw.iload (pc := 1326) (x := x4) K dL_law_1326 rfl ?_
  refine Vw.iconst (pc := 1328) (v := (1 : Int32)) K (by decide) dL_law_1328 ?_
  refine Vw.iadd (pc := 1329) K dL_law_1329 ?_
  obtain ⟨g294, h⟩ := wgd h
  refine Vw.sld (pc := 1330) K hX g294 dL_law_1330 ?_
  obtain ⟨g295, h⟩ := wgd h
  obtain ⟨p297, e296, h⟩ := wbd h
  refine Vw.cV1 (pc := 1331) (v := .inl p297.1) (c' := c + 1) (n' := n + 6) K (s_X9_serial K.tr e296) cal_X9_serial cls7 u_8_27 g295 rfl ⟨by decide, by decide⟩ ⟨by omega, by omega⟩ rfl (Nat.le_of_ble_eq_true rfl) dL_law_1331 rfl rfl ?_
  refine Vw.istore (pc := 1334) K dL_law_1334 (by decide) ?_
  refine Vw.aload_n (pc := 1336) (x := x2) K dL_law_1336 rfl ?_
  obtain ⟨g298, h⟩ := wgd h
  obtain ⟨v300, e299, h⟩ := wbd h
  refine Vw.cV1 (pc := 1337) (v := .inl v300) (c' := c + 1) (n' := n + 6) K (s_X9_thrown K.tr e299) cal_X9_thrown cls7 u_6_134 g298 rfl ⟨by decide, by decide⟩ ⟨by omega, by omega⟩ rfl (Nat.le_of_ble_eq_true rfl) dL_law_1337 rfl rfl ?_
  refine Vw.iload (pc := 1340) (x := p293.1) K dL_law_1340 rfl ?_
  refine Vw.icmp_eq (pc := 1342) (tgt := 1347) K dL_law_1342 (by decide) (fun c301 => ?_) (fun c301 => ?_)
  · have h := wpos c301 h
    refine Vw.iload (pc := 1347) (x := p293.1) K dL_law_1347 rfl ?_
    refine Vw.if_ne (pc := 1349) (tgt := 1364) K dL_law_1349 (by decide) (fun c302 => ?_) (fun c302 => ?_)
    · have h := wneg c302 h
      refine Vw.goto (pc := 1364) (tgt := 2228) K dL_law_1364 (by decide) ?_
      exact Vw.loc rfl (s_L_law_2228 K E hX (fu := fu) (by omega) (by omega) hr23 h)
    · have h := wpos c302 h
      refine Vw.aload_n (pc := 1352) (x := x3) K dL_law_1352 rfl ?_
      refine Vw.iconst (pc := 1353) (v := (0 : Int32)) K (by decide) dL_law_1353 ?_
      obtain ⟨g303, h⟩ := wgd h
      obtain ⟨g304, h⟩ := wgd h
      refine Vw.laload (pc := 1354) K g303 g304 dL_law_1354 ?_
      refine Vw.iload (pc := 1355) (x := p297.1) K dL_law_1355 rfl ?_
      refine Vw.i2l (pc := 1357) K dL_law_1357 ?_
      refine Vw.lcmp_eq (pc := 1358) (tgt := 1364) K dL_law_1358 dL_law_1359 (by decide) (fun c305 => ?_) (fun c305 => ?_)
      · have h := wpos c305 h
        refine Vw.goto (pc := 1364) (tgt := 2228) K dL_law_1364 (by decide) ?_
        exact Vw.loc rfl (s_L_law_2228 K E hX (fu := fu) (by omega) (by omega) hr23 h)
      · have h := wneg c305 h
        refine Vw.iconst (pc := 1362) (v := (0 : Int32)) K (by decide) dL_law_1362 ?_
        exact Vw.lawret (pc := 1363) K E h (by omega) (by omega) dL_law_1363
  · have h := wneg c301 h
    refine Vw.iconst (pc := 1345) (v := (0 : Int32)) K (by decide) dL_law_1345 ?_
    exact Vw.lawret (pc := 1346) K E h (by omega) (by omega) dL_law_1346
def k_L_law_1421 (xs : Nat → Int32) (Ln : Nat) (rec23 : Hp → Int32 → Option Int32) (A : Hp) (x1 : Nat) (x2 : Nat) (x3 : Nat) (x4 : Int32) (t0 : Int64) (t1 : Int64) : Option Int32 := (if t0 = t1 then k_L_law_2228 xs Ln rec23 A x1 x2 x3 x4 else some (0 : Int32))
set_option maxRecDepth 100000 in
theorem s_L_law_1421 {κ : KT} {xs : Nat → Int32} {Ln : Nat} {rec23 : Hp → Int32 → Option Int32} {A : Hp} {x1 : Nat} {x2 : Nat} {x3 : Nat} {x4 : Int32} {t0 : Int64} {t1 : Int64} {c n fu : Nat} (K : Cx κ cL_law 8 RL 14 540 601024 7293034) (E : EdW κ) (hX : SX κ Ln xs) (hc9 : c + fu * 423 + 0 ≤ 217462) (hn9 : n + fu * 8600 + 0 ≤ 4447408) (hr23 : ∀ (c n : Nat) (A : Hp) (x4 : Int32), c + fu * 423 ≤ 217462 → n + fu * 8600 ≤ 4447408 → rec23 A x4 = some 1 → Vw κ A c n 23 [(0, .inr (.inr 92)), (1, .inr (.inr x1)), (2, .inr (.inr x2)), (3, .inr (.inr x3)), (4, .inl x4)] []) (h : k_L_law_1421 xs Ln rec23 A x1 x2 x3 x4 t0 t1 = some 1) : Vw κ A c n 1421 [(0, .inr (.inr 92)), (1, .inr (.inr x1)), (2, .inr (.inr x2)), (3, .inr (.inr x3)), (4, .inl x4)] [.inr (.inl t1), .inr (.inl t0)] := by
  unfold k_L_law_1421 at h
  refine Vw.lcmp_eq (pc := 1421) (tgt := 1427) K dL_law_1421 dL_law_1422 (by decide) (fun c306 => ?_) (fun c306 => ?_)
  · have h := wpos c306 h
    refine Vw.goto (pc := 1427) (tgt := 2228) K dL_law_1427 (by decide) ?_
    exact Vw.loc rfl (s_L_law_2228 K E hX (fu := fu) (by omega) (by omega) hr23 h)
  · have h := wneg c306 h
    refine Vw.iconst (pc := 1425) (v := (0 : Int32)) K (by decide) dL_law_1425 ?_
    exact Vw.lawret (pc := 1426) K E h (by omega) (by omega) dL_law_1426
def k_L_law_1367 (xs : Nat → Int32) (Ln : Nat) (rec23 : Hp → Int32 → Option Int32) (A : Hp) (x1 : Nat) (x2 : Nat) (x3 : Nat) (x4 : Int32)  : Option Int32 := if wix (x4 + (1 : Int32)) Ln then ((f_L_isHostOnly A x1 (xs (x4 + (1 : Int32)).toNatClampNeg) x3).bind fun p309 => if wix (x4 + (1 : Int32)) Ln then if (hsh p309.2 x2).1 = 8 then ((f_X9_isHostOnly p309.2 x2 (xs (x4 + (1 : Int32)).toNatClampNeg)).bind fun p313 => if (hsh p313.2 x2).1 = 8 then ((f_X9_thrown p313.2 x2).bind fun v316 => (if v316 = p309.1 then (if p309.1 = (0 : Int32) then if (hsh p313.2 x3).1 = 11 then if wix (0 : Int32) (hsh p313.2 x3).2 then (if p313.1 = (0 : Int32) then k_L_law_1421 xs Ln rec23 p313.2 x1 x2 x3 x4 (hgL p313.2 1035 x3 (0 : Int32).toNatClampNeg) (0 : Int64) else k_L_law_1421 xs Ln rec23 p313.2 x1 x2 x3 x4 (hgL p313.2 1035 x3 (0 : Int32).toNatClampNeg) (1 : Int64)) else none else none else k_L_law_2228 xs Ln rec23 p313.2 x1 x2 x3 x4) else some (0 : Int32))) else none) else none else none) else none
set_option maxRecDepth 100000 in
theorem s_L_law_1367 {κ : KT} {xs : Nat → Int32} {Ln : Nat} {rec23 : Hp → Int32 → Option Int32} {A : Hp} {x1 : Nat} {x2 : Nat} {x3 : Nat} {x4 : Int32}  {c n fu : Nat} (K : Cx κ cL_law 8 RL 14 540 601024 7293034) (E : EdW κ) (hX : SX κ Ln xs) (hc9 : c + fu * 423 + 1 ≤ 217462) (hn9 : n + fu * 8600 + 6 ≤ 4447408) (hr23 : ∀ (c n : Nat) (A : Hp) (x4 : Int32), c + fu * 423 ≤ 217462 → n + fu * 8600 ≤ 4447408 → rec23 A x4 = some 1 → Vw κ A c n 23 [(0, .inr (.inr 92)), (1, .inr (.inr x1)), (2, .inr (.inr x2)), (3, .inr (.inr x3)), (4, .inl x4)] []) (h : k_L_law_1367 xs Ln rec23 A x1 x2 x3 x4  = some 1) : Vw κ A c n 1367 [(0, .inr (.inr 92)), (1, .inr (.inr x1)), (2, .inr (.inr x2)), (3, .inr (.inr x3)), (4, .inl x4)] [] := by
  unfold k_L_law_1367 at h
  refine Vw.aload_n (pc := 1367) (x := x1) K dL_law_1367 rfl ?_
  refine Vw.aload_n (pc := 1368) (x := 92) K dL_law_1368 rfl ?_
  refine Vw.iload (pc := 1369) (x := x4) K dL_law_1369 rfl ?_
  refine Vw.iconst (pc := 1371) (v := (1 : Int32)) K (by decide) dL_law_1371 ?_
  refine Vw.iadd (pc := 1372) K dL_law_1372 ?_
  obtain ⟨g307, h⟩ := wgd h
  refine Vw.sld (pc := 1373) K hX g307 dL_law_1373 ?_
  refine Vw.aload_n (pc := 1374) (x := x3) K dL_law_1374 rfl ?_
  obtain ⟨p309, e308, h⟩ := wbd h
  refine Vw.cH1 (pc := 1375) (v := .inl p309.1) (c' := c + 1) (n' := n + 6) K (s_L_isHostOnly K.tr e308) cal_L_isHostOnly u_5_113 rfl ⟨by decide, by decide⟩ ⟨by omega, by omega⟩ rfl (Nat.le_of_ble_eq_true rfl) dL_law_1375 rfl rfl ?_
  refine Vw.istore (pc := 1378) K dL_law_1378 (by decide) ?_
  refine Vw.aload_n (pc := 1380) (x := x2) K dL_law_1380 rfl ?_
  refine Vw.aload_n (pc := 1381) (x := 92) K dL_law_1381 rfl ?_
  refine Vw.iload (pc := 1382) (x := x4) K dL_law_1382 rfl ?_
  refine Vw.iconst (pc := 1384) (v := (1 : Int32)) K (by decide) dL_law_1384 ?_
  refine Vw.iadd (pc := 1385) K dL_law_1385 ?_
  obtain ⟨g310, h⟩ := wgd h
  refine Vw.sld (pc := 1386) K hX g310 dL_law_1386 ?_
  obtain ⟨g311, h⟩ := wgd h
  obtain ⟨p313, e312, h⟩ := wbd h
  refine Vw.cV1 (pc := 1387) (v := .inl p313.1) (c' := c + 1) (n' := n + 6) K (s_X9_isHostOnly K.tr e312) cal_X9_isHostOnly cls7 u_8_31 g311 rfl ⟨by decide, by decide⟩ ⟨by omega, by omega⟩ rfl (Nat.le_of_ble_eq_true rfl) dL_law_1387 rfl rfl ?_
  refine Vw.istore (pc := 1390) K dL_law_1390 (by decide) ?_
  refine Vw.aload_n (pc := 1392) (x := x2) K dL_law_1392 rfl ?_
  obtain ⟨g314, h⟩ := wgd h
  obtain ⟨v316, e315, h⟩ := wbd h
  refine Vw.cV1 (pc := 1393) (v := .inl v316) (c' := c + 1) (n' := n + 6) K (s_X9_thrown K.tr e315) cal_X9_thrown cls7 u_6_134 g314 rfl ⟨by decide, by decide⟩ ⟨by omega, by omega⟩ rfl (Nat.le_of_ble_eq_true rfl) dL_law_1393 rfl rfl ?_
  refine Vw.iload (pc := 1396) (x := p309.1) K dL_law_1396 rfl ?_
  refine Vw.icmp_eq (pc := 1398) (tgt := 1403) K dL_law_1398 (by decide) (fun c317 => ?_) (fun c317 => ?_)
  · have h := wpos c317 h
    refine Vw.iload (pc := 1403) (x := p309.1) K dL_law_1403 rfl ?_
    refine Vw.if_ne (pc := 1405) (tgt := 1427) K dL_law_1405 (by decide) (fun c318 => ?_) (fun c318 => ?_)
    · have h := wneg c318 h
      refine Vw.goto (pc := 1427) (tgt := 2228) K dL_law_1427 (by decide) ?_
      exact Vw.loc rfl (s_L_law_2228 K E hX (fu := fu) (by omega) (by omega) hr23 h)
    · have h := wpos c318 h
      refine Vw.aload_n (pc := 1408) (x := x3) K dL_law_1408 rfl ?_
      refine Vw.iconst (pc := 1409) (v := (0 : Int32)) K (by decide) dL_law_1409 ?_
      obtain ⟨g319, h⟩ := wgd h
      obtain ⟨g320, h⟩ := wgd h
      refine Vw.laload (pc := 1410) K g319 g320 dL_law_1410 ?_
      refine Vw.iload (pc := 1411) (x := p313.1) K dL_law_1411 rfl ?_
      refine Vw.if_eq (pc := 1413) (tgt := 1420) K dL_law_1413 (by decide) (fun c321 => ?_) (fun c321 => ?_)
      · have h := wpos c321 h
        refine Vw.lconst (pc := 1420) (v := (0 : Int64)) K (by decide) dL_law_1420 ?_
        exact Vw.loc rfl (s_L_law_1421 K E hX (fu := fu) (by omega) (by omega) hr23 h)
      · have h := wneg c321 h
        refine Vw.lconst (pc := 1416) (v := (1 : Int64)) K (by decide) dL_law_1416 ?_
        refine Vw.goto (pc := 1417) (tgt := 1421) K dL_law_1417 (by decide) ?_
        exact Vw.loc rfl (s_L_law_1421 K E hX (fu := fu) (by omega) (by omega) hr23 h)
  · have h := wneg c317 h
    refine Vw.iconst (pc := 1401) (v := (0 : Int32)) K (by decide) dL_law_1401 ?_
    exact Vw.lawret (pc := 1402) K E h (by omega) (by omega) dL_law_1402
def k_L_law_1484 (xs : Nat → Int32) (Ln : Nat) (rec23 : Hp → Int32 → Option Int32) (A : Hp) (x1 : Nat) (x2 : Nat) (x3 : Nat) (x4 : Int32) (t0 : Int64) (t1 : Int64) : Option Int32 := (if t0 = t1 then k_L_law_2228 xs Ln rec23 A x1 x2 x3 x4 else some (0 : Int32))
set_option maxRecDepth 100000 in
theorem s_L_law_1484 {κ : KT} {xs : Nat → Int32} {Ln : Nat} {rec23 : Hp → Int32 → Option Int32} {A : Hp} {x1 : Nat} {x2 : Nat} {x3 : Nat} {x4 : Int32} {t0 : Int64} {t1 : Int64} {c n fu : Nat} (K : Cx κ cL_law 8 RL 14 540 601024 7293034) (E : EdW κ) (hX : SX κ Ln xs) (hc9 : c + fu * 423 + 0 ≤ 217462) (hn9 : n + fu * 8600 + 0 ≤ 4447408) (hr23 : ∀ (c n : Nat) (A : Hp) (x4 : Int32), c + fu * 423 ≤ 217462 → n + fu * 8600 ≤ 4447408 → rec23 A x4 = some 1 → Vw κ A c n 23 [(0, .inr (.inr 92)), (1, .inr (.inr x1)), (2, .inr (.inr x2)), (3, .inr (.inr x3)), (4, .inl x4)] []) (h : k_L_law_1484 xs Ln rec23 A x1 x2 x3 x4 t0 t1 = some 1) : Vw κ A c n 1484 [(0, .inr (.inr 92)), (1, .inr (.inr x1)), (2, .inr (.inr x2)), (3, .inr (.inr x3)), (4, .inl x4)] [.inr (.inl t1), .inr (.inl t0)] := by
  unfold k_L_law_1484 at h
  refine Vw.lcmp_eq (pc := 1484) (tgt := 1490) K dL_law_1484 dL_law_1485 (by decide) (fun c322 => ?_) (fun c322 => ?_)
  · have h := wpos c322 h
    refine Vw.goto (pc := 1490) (tgt := 2228) K dL_law_1490 (by decide) ?_
    exact Vw.loc rfl (s_L_law_2228 K E hX (fu := fu) (by omega) (by omega) hr23 h)
  · have h := wneg c322 h
    refine Vw.iconst (pc := 1488) (v := (0 : Int32)) K (by decide) dL_law_1488 ?_
    exact Vw.lawret (pc := 1489) K E h (by omega) (by omega) dL_law_1489
def k_L_law_1430 (xs : Nat → Int32) (Ln : Nat) (rec23 : Hp → Int32 → Option Int32) (A : Hp) (x1 : Nat) (x2 : Nat) (x3 : Nat) (x4 : Int32)  : Option Int32 := if wix (x4 + (1 : Int32)) Ln then ((f_L_isSecure A x1 (xs (x4 + (1 : Int32)).toNatClampNeg) x3).bind fun p325 => if wix (x4 + (1 : Int32)) Ln then if (hsh p325.2 x2).1 = 8 then ((f_X9_isSecure p325.2 x2 (xs (x4 + (1 : Int32)).toNatClampNeg)).bind fun p329 => if (hsh p329.2 x2).1 = 8 then ((f_X9_thrown p329.2 x2).bind fun v332 => (if v332 = p325.1 then (if p325.1 = (0 : Int32) then if (hsh p329.2 x3).1 = 11 then if wix (0 : Int32) (hsh p329.2 x3).2 then (if p329.1 = (0 : Int32) then k_L_law_1484 xs Ln rec23 p329.2 x1 x2 x3 x4 (hgL p329.2 1035 x3 (0 : Int32).toNatClampNeg) (0 : Int64) else k_L_law_1484 xs Ln rec23 p329.2 x1 x2 x3 x4 (hgL p329.2 1035 x3 (0 : Int32).toNatClampNeg) (1 : Int64)) else none else none else k_L_law_2228 xs Ln rec23 p329.2 x1 x2 x3 x4) else some (0 : Int32))) else none) else none else none) else none
set_option maxRecDepth 100000 in
theorem s_L_law_1430 {κ : KT} {xs : Nat → Int32} {Ln : Nat} {rec23 : Hp → Int32 → Option Int32} {A : Hp} {x1 : Nat} {x2 : Nat} {x3 : Nat} {x4 : Int32}  {c n fu : Nat} (K : Cx κ cL_law 8 RL 14 540 601024 7293034) (E : EdW κ) (hX : SX κ Ln xs) (hc9 : c + fu * 423 + 1 ≤ 217462) (hn9 : n + fu * 8600 + 6 ≤ 4447408) (hr23 : ∀ (c n : Nat) (A : Hp) (x4 : Int32), c + fu * 423 ≤ 217462 → n + fu * 8600 ≤ 4447408 → rec23 A x4 = some 1 → Vw κ A c n 23 [(0, .inr (.inr 92)), (1, .inr (.inr x1)), (2, .inr (.inr x2)), (3, .inr (.inr x3)), (4, .inl x4)] []) (h : k_L_law_1430 xs Ln rec23 A x1 x2 x3 x4  = some 1) : Vw κ A c n 1430 [(0, .inr (.inr 92)), (1, .inr (.inr x1)), (2, .inr (.inr x2)), (3, .inr (.inr x3)), (4, .inl x4)] [] := by
  unfold k_L_law_1430 at h
  refine Vw.aload_n (pc := 1430) (x := x1) K dL_law_1430 rfl ?_
  refine Vw.aload_n (pc := 1431) (x := 92) K dL_law_1431 rfl ?_
  refine Vw.iload (pc := 1432) (x := x4) K dL_law_1432 rfl ?_
  refine Vw.iconst (pc := 1434) (v := (1 : Int32)) K (by decide) dL_law_1434 ?_
  refine Vw.iadd (pc := 1435) K dL_law_1435 ?_
  obtain ⟨g323, h⟩ := wgd h
  refine Vw.sld (pc := 1436) K hX g323 dL_law_1436 ?_
  refine Vw.aload_n (pc := 1437) (x := x3) K dL_law_1437 rfl ?_
  obtain ⟨p325, e324, h⟩ := wbd h
  refine Vw.cH1 (pc := 1438) (v := .inl p325.1) (c' := c + 1) (n' := n + 6) K (s_L_isSecure K.tr e324) cal_L_isSecure u_5_120 rfl ⟨by decide, by decide⟩ ⟨by omega, by omega⟩ rfl (Nat.le_of_ble_eq_true rfl) dL_law_1438 rfl rfl ?_
  refine Vw.istore (pc := 1441) K dL_law_1441 (by decide) ?_
  refine Vw.aload_n (pc := 1443) (x := x2) K dL_law_1443 rfl ?_
  refine Vw.aload_n (pc := 1444) (x := 92) K dL_law_1444 rfl ?_
  refine Vw.iload (pc := 1445) (x := x4) K dL_law_1445 rfl ?_
  refine Vw.iconst (pc := 1447) (v := (1 : Int32)) K (by decide) dL_law_1447 ?_
  refine Vw.iadd (pc := 1448) K dL_law_1448 ?_
  obtain ⟨g326, h⟩ := wgd h
  refine Vw.sld (pc := 1449) K hX g326 dL_law_1449 ?_
  obtain ⟨g327, h⟩ := wgd h
  obtain ⟨p329, e328, h⟩ := wbd h
  refine Vw.cV1 (pc := 1450) (v := .inl p329.1) (c' := c + 1) (n' := n + 6) K (s_X9_isSecure K.tr e328) cal_X9_isSecure cls7 u_8_35 g327 rfl ⟨by decide, by decide⟩ ⟨by omega, by omega⟩ rfl (Nat.le_of_ble_eq_true rfl) dL_law_1450 rfl rfl ?_
  refine Vw.istore (pc := 1453) K dL_law_1453 (by decide) ?_
  refine Vw.aload_n (pc := 1455) (x := x2) K dL_law_1455 rfl ?_
  obtain ⟨g330, h⟩ := wgd h
  obtain ⟨v332, e331, h⟩ := wbd h
  refine Vw.cV1 (pc := 1456) (v := .inl v332) (c' := c + 1) (n' := n + 6) K (s_X9_thrown K.tr e331) cal_X9_thrown cls7 u_6_134 g330 rfl ⟨by decide, by decide⟩ ⟨by omega, by omega⟩ rfl (Nat.le_of_ble_eq_true rfl) dL_law_1456 rfl rfl ?_
  refine Vw.iload (pc := 1459) (x := p325.1) K dL_law_1459 rfl ?_
  refine Vw.icmp_eq (pc := 1461) (tgt := 1466) K dL_law_1461 (by decide) (fun c333 => ?_) (fun c333 => ?_)
  · have h := wpos c333 h
    refine Vw.iload (pc := 1466) (x := p325.1) K dL_law_1466 rfl ?_
    refine Vw.if_ne (pc := 1468) (tgt := 1490) K dL_law_1468 (by decide) (fun c334 => ?_) (fun c334 => ?_)
    · have h := wneg c334 h
      refine Vw.goto (pc := 1490) (tgt := 2228) K dL_law_1490 (by decide) ?_
      exact Vw.loc rfl (s_L_law_2228 K E hX (fu := fu) (by omega) (by omega) hr23 h)
    · have h := wpos c334 h
      refine Vw.aload_n (pc := 1471) (x := x3) K dL_law_1471 rfl ?_
      refine Vw.iconst (pc := 1472) (v := (0 : Int32)) K (by decide) dL_law_1472 ?_
      obtain ⟨g335, h⟩ := wgd h
      obtain ⟨g336, h⟩ := wgd h
      refine Vw.laload (pc := 1473) K g335 g336 dL_law_1473 ?_
      refine Vw.iload (pc := 1474) (x := p329.1) K dL_law_1474 rfl ?_
      refine Vw.if_eq (pc := 1476) (tgt := 1483) K dL_law_1476 (by decide) (fun c337 => ?_) (fun c337 => ?_)
      · have h := wpos c337 h
        refine Vw.lconst (pc := 1483) (v := (0 : Int64)) K (by decide) dL_law_1483 ?_
        exact Vw.loc rfl (s_L_law_1484 K E hX (fu := fu) (by omega) (by omega) hr23 h)
      · have h := wneg c337 h
        refine Vw.lconst (pc := 1479) (v := (1 : Int64)) K (by decide) dL_law_1479 ?_
        refine Vw.goto (pc := 1480) (tgt := 1484) K dL_law_1480 (by decide) ?_
        exact Vw.loc rfl (s_L_law_1484 K E hX (fu := fu) (by omega) (by omega) hr23 h)
  · have h := wneg c333 h
    refine Vw.iconst (pc := 1464) (v := (0 : Int32)) K (by decide) dL_law_1464 ?_
    exact Vw.lawret (pc := 1465) K E h (by omega) (by omega) dL_law_1465
def k_L_law_1547 (xs : Nat → Int32) (Ln : Nat) (rec23 : Hp → Int32 → Option Int32) (A : Hp) (x1 : Nat) (x2 : Nat) (x3 : Nat) (x4 : Int32) (t0 : Int64) (t1 : Int64) : Option Int32 := (if t0 = t1 then k_L_law_2228 xs Ln rec23 A x1 x2 x3 x4 else some (0 : Int32))
set_option maxRecDepth 100000 in
theorem s_L_law_1547 {κ : KT} {xs : Nat → Int32} {Ln : Nat} {rec23 : Hp → Int32 → Option Int32} {A : Hp} {x1 : Nat} {x2 : Nat} {x3 : Nat} {x4 : Int32} {t0 : Int64} {t1 : Int64} {c n fu : Nat} (K : Cx κ cL_law 8 RL 14 540 601024 7293034) (E : EdW κ) (hX : SX κ Ln xs) (hc9 : c + fu * 423 + 0 ≤ 217462) (hn9 : n + fu * 8600 + 0 ≤ 4447408) (hr23 : ∀ (c n : Nat) (A : Hp) (x4 : Int32), c + fu * 423 ≤ 217462 → n + fu * 8600 ≤ 4447408 → rec23 A x4 = some 1 → Vw κ A c n 23 [(0, .inr (.inr 92)), (1, .inr (.inr x1)), (2, .inr (.inr x2)), (3, .inr (.inr x3)), (4, .inl x4)] []) (h : k_L_law_1547 xs Ln rec23 A x1 x2 x3 x4 t0 t1 = some 1) : Vw κ A c n 1547 [(0, .inr (.inr 92)), (1, .inr (.inr x1)), (2, .inr (.inr x2)), (3, .inr (.inr x3)), (4, .inl x4)] [.inr (.inl t1), .inr (.inl t0)] := by
  unfold k_L_law_1547 at h
  refine Vw.lcmp_eq (pc := 1547) (tgt := 1553) K dL_law_1547 dL_law_1548 (by decide) (fun c338 => ?_) (fun c338 => ?_)
  · have h := wpos c338 h
    refine Vw.goto (pc := 1553) (tgt := 2228) K dL_law_1553 (by decide) ?_
    exact Vw.loc rfl (s_L_law_2228 K E hX (fu := fu) (by omega) (by omega) hr23 h)
  · have h := wneg c338 h
    refine Vw.iconst (pc := 1551) (v := (0 : Int32)) K (by decide) dL_law_1551 ?_
    exact Vw.lawret (pc := 1552) K E h (by omega) (by omega) dL_law_1552
def k_L_law_1493 (xs : Nat → Int32) (Ln : Nat) (rec23 : Hp → Int32 → Option Int32) (A : Hp) (x1 : Nat) (x2 : Nat) (x3 : Nat) (x4 : Int32)  : Option Int32 := if wix (x4 + (1 : Int32)) Ln then ((f_L_isHttpOnly A x1 (xs (x4 + (1 : Int32)).toNatClampNeg) x3).bind fun p341 => if wix (x4 + (1 : Int32)) Ln then if (hsh p341.2 x2).1 = 8 then ((f_X9_isHttpOnly p341.2 x2 (xs (x4 + (1 : Int32)).toNatClampNeg)).bind fun p345 => if (hsh p345.2 x2).1 = 8 then ((f_X9_thrown p345.2 x2).bind fun v348 => (if v348 = p341.1 then (if p341.1 = (0 : Int32) then if (hsh p345.2 x3).1 = 11 then if wix (0 : Int32) (hsh p345.2 x3).2 then (if p345.1 = (0 : Int32) then k_L_law_1547 xs Ln rec23 p345.2 x1 x2 x3 x4 (hgL p345.2 1035 x3 (0 : Int32).toNatClampNeg) (0 : Int64) else k_L_law_1547 xs Ln rec23 p345.2 x1 x2 x3 x4 (hgL p345.2 1035 x3 (0 : Int32).toNatClampNeg) (1 : Int64)) else none else none else k_L_law_2228 xs Ln rec23 p345.2 x1 x2 x3 x4) else some (0 : Int32))) else none) else none else none) else none
set_option maxRecDepth 100000 in
theorem s_L_law_1493 {κ : KT} {xs : Nat → Int32} {Ln : Nat} {rec23 : Hp → Int32 → Option Int32} {A : Hp} {x1 : Nat} {x2 : Nat} {x3 : Nat} {x4 : Int32}  {c n fu : Nat} (K : Cx κ cL_law 8 RL 14 540 601024 7293034) (E : EdW κ) (hX : SX κ Ln xs) (hc9 : c + fu * 423 + 1 ≤ 217462) (hn9 : n + fu * 8600 + 6 ≤ 4447408) (hr23 : ∀ (c n : Nat) (A : Hp) (x4 : Int32), c + fu * 423 ≤ 217462 → n + fu * 8600 ≤ 4447408 → rec23 A x4 = some 1 → Vw κ A c n 23 [(0, .inr (.inr 92)), (1, .inr (.inr x1)), (2, .inr (.inr x2)), (3, .inr (.inr x3)), (4, .inl x4)] []) (h : k_L_law_1493 xs Ln rec23 A x1 x2 x3 x4  = some 1) : Vw κ A c n 1493 [(0, .inr (.inr 92)), (1, .inr (.inr x1)), (2, .inr (.inr x2)), (3, .inr (.inr x3)), (4, .inl x4)] [] := by
  unfold k_L_law_1493 at h
  refine Vw.aload_n (pc := 1493) (x := x1) K dL_law_1493 rfl ?_
  refine Vw.aload_n (pc := 1494) (x := 92) K dL_law_1494 rfl ?_
  refine Vw.iload (pc := 1495) (x := x4) K dL_law_1495 rfl ?_
  refine Vw.iconst (pc := 1497) (v := (1 : Int32)) K (by decide) dL_law_1497 ?_
  refine Vw.iadd (pc := 1498) K dL_law_1498 ?_
  obtain ⟨g339, h⟩ := wgd h
  refine Vw.sld (pc := 1499) K hX g339 dL_law_1499 ?_
  refine Vw.aload_n (pc := 1500) (x := x3) K dL_law_1500 rfl ?_
  obtain ⟨p341, e340, h⟩ := wbd h
  refine Vw.cH1 (pc := 1501) (v := .inl p341.1) (c' := c + 1) (n' := n + 6) K (s_L_isHttpOnly K.tr e340) cal_L_isHttpOnly u_5_127 rfl ⟨by decide, by decide⟩ ⟨by omega, by omega⟩ rfl (Nat.le_of_ble_eq_true rfl) dL_law_1501 rfl rfl ?_
  refine Vw.istore (pc := 1504) K dL_law_1504 (by decide) ?_
  refine Vw.aload_n (pc := 1506) (x := x2) K dL_law_1506 rfl ?_
  refine Vw.aload_n (pc := 1507) (x := 92) K dL_law_1507 rfl ?_
  refine Vw.iload (pc := 1508) (x := x4) K dL_law_1508 rfl ?_
  refine Vw.iconst (pc := 1510) (v := (1 : Int32)) K (by decide) dL_law_1510 ?_
  refine Vw.iadd (pc := 1511) K dL_law_1511 ?_
  obtain ⟨g342, h⟩ := wgd h
  refine Vw.sld (pc := 1512) K hX g342 dL_law_1512 ?_
  obtain ⟨g343, h⟩ := wgd h
  obtain ⟨p345, e344, h⟩ := wbd h
  refine Vw.cV1 (pc := 1513) (v := .inl p345.1) (c' := c + 1) (n' := n + 6) K (s_X9_isHttpOnly K.tr e344) cal_X9_isHttpOnly cls7 u_8_39 g343 rfl ⟨by decide, by decide⟩ ⟨by omega, by omega⟩ rfl (Nat.le_of_ble_eq_true rfl) dL_law_1513 rfl rfl ?_
  refine Vw.istore (pc := 1516) K dL_law_1516 (by decide) ?_
  refine Vw.aload_n (pc := 1518) (x := x2) K dL_law_1518 rfl ?_
  obtain ⟨g346, h⟩ := wgd h
  obtain ⟨v348, e347, h⟩ := wbd h
  refine Vw.cV1 (pc := 1519) (v := .inl v348) (c' := c + 1) (n' := n + 6) K (s_X9_thrown K.tr e347) cal_X9_thrown cls7 u_6_134 g346 rfl ⟨by decide, by decide⟩ ⟨by omega, by omega⟩ rfl (Nat.le_of_ble_eq_true rfl) dL_law_1519 rfl rfl ?_
  refine Vw.iload (pc := 1522) (x := p341.1) K dL_law_1522 rfl ?_
  refine Vw.icmp_eq (pc := 1524) (tgt := 1529) K dL_law_1524 (by decide) (fun c349 => ?_) (fun c349 => ?_)
  · have h := wpos c349 h
    refine Vw.iload (pc := 1529) (x := p341.1) K dL_law_1529 rfl ?_
    refine Vw.if_ne (pc := 1531) (tgt := 1553) K dL_law_1531 (by decide) (fun c350 => ?_) (fun c350 => ?_)
    · have h := wneg c350 h
      refine Vw.goto (pc := 1553) (tgt := 2228) K dL_law_1553 (by decide) ?_
      exact Vw.loc rfl (s_L_law_2228 K E hX (fu := fu) (by omega) (by omega) hr23 h)
    · have h := wpos c350 h
      refine Vw.aload_n (pc := 1534) (x := x3) K dL_law_1534 rfl ?_
      refine Vw.iconst (pc := 1535) (v := (0 : Int32)) K (by decide) dL_law_1535 ?_
      obtain ⟨g351, h⟩ := wgd h
      obtain ⟨g352, h⟩ := wgd h
      refine Vw.laload (pc := 1536) K g351 g352 dL_law_1536 ?_
      refine Vw.iload (pc := 1537) (x := p345.1) K dL_law_1537 rfl ?_
      refine Vw.if_eq (pc := 1539) (tgt := 1546) K dL_law_1539 (by decide) (fun c353 => ?_) (fun c353 => ?_)
      · have h := wpos c353 h
        refine Vw.lconst (pc := 1546) (v := (0 : Int64)) K (by decide) dL_law_1546 ?_
        exact Vw.loc rfl (s_L_law_1547 K E hX (fu := fu) (by omega) (by omega) hr23 h)
      · have h := wneg c353 h
        refine Vw.lconst (pc := 1542) (v := (1 : Int64)) K (by decide) dL_law_1542 ?_
        refine Vw.goto (pc := 1543) (tgt := 1547) K dL_law_1543 (by decide) ?_
        exact Vw.loc rfl (s_L_law_1547 K E hX (fu := fu) (by omega) (by omega) hr23 h)
  · have h := wneg c349 h
    refine Vw.iconst (pc := 1527) (v := (0 : Int32)) K (by decide) dL_law_1527 ?_
    exact Vw.lawret (pc := 1528) K E h (by omega) (by omega) dL_law_1528
def k_L_law_1556 (xs : Nat → Int32) (Ln : Nat) (rec23 : Hp → Int32 → Option Int32) (A : Hp) (x1 : Nat) (x2 : Nat) (x3 : Nat) (x4 : Int32)  : Option Int32 := if wix (x4 + (1 : Int32)) Ln then ((f_L_sameSite A x1 (xs (x4 + (1 : Int32)).toNatClampNeg) x3).bind fun p356 => if wix (x4 + (1 : Int32)) Ln then if (hsh p356.2 x2).1 = 8 then ((f_X9_sameSite p356.2 x2 (xs (x4 + (1 : Int32)).toNatClampNeg)).bind fun p360 => if (hsh p360.2 x2).1 = 8 then ((f_X9_thrown p360.2 x2).bind fun v363 => (if v363 = p356.1 then (if p356.1 = (0 : Int32) then if (hsh p360.2 x3).1 = 11 then if wix (0 : Int32) (hsh p360.2 x3).2 then (if (hgL p360.2 1035 x3 (0 : Int32).toNatClampNeg) = p360.1.toInt64 then k_L_law_2228 xs Ln rec23 p360.2 x1 x2 x3 x4 else some (0 : Int32)) else none else none else k_L_law_2228 xs Ln rec23 p360.2 x1 x2 x3 x4) else some (0 : Int32))) else none) else none else none) else none
set_option maxRecDepth 100000 in
theorem s_L_law_1556 {κ : KT} {xs : Nat → Int32} {Ln : Nat} {rec23 : Hp → Int32 → Option Int32} {A : Hp} {x1 : Nat} {x2 : Nat} {x3 : Nat} {x4 : Int32}  {c n fu : Nat} (K : Cx κ cL_law 8 RL 14 540 601024 7293034) (E : EdW κ) (hX : SX κ Ln xs) (hc9 : c + fu * 423 + 1 ≤ 217462) (hn9 : n + fu * 8600 + 6 ≤ 4447408) (hr23 : ∀ (c n : Nat) (A : Hp) (x4 : Int32), c + fu * 423 ≤ 217462 → n + fu * 8600 ≤ 4447408 → rec23 A x4 = some 1 → Vw κ A c n 23 [(0, .inr (.inr 92)), (1, .inr (.inr x1)), (2, .inr (.inr x2)), (3, .inr (.inr x3)), (4, .inl x4)] []) (h : k_L_law_1556 xs Ln rec23 A x1 x2 x3 x4  = some 1) : Vw κ A c n 1556 [(0, .inr (.inr 92)), (1, .inr (.inr x1)), (2, .inr (.inr x2)), (3, .inr (.inr x3)), (4, .inl x4)] [] := by
  unfold k_L_law_1556 at h
  refine Vw.aload_n (pc := 1556) (x := x1) K dL_law_1556 rfl ?_
  refine Vw.aload_n (pc := 1557) (x := 92) K dL_law_1557 rfl ?_
  refine Vw.iload (pc := 1558) (x := x4) K dL_law_1558 rfl ?_
  refine Vw.iconst (pc := 1560) (v := (1 : Int32)) K (by decide) dL_law_1560 ?_
  refine Vw.iadd (pc := 1561) K dL_law_1561 ?_
  obtain ⟨g354, h⟩ := wgd h
  refine Vw.sld (pc := 1562) K hX g354 dL_law_1562 ?_
  refine Vw.aload_n (pc := 1563) (x := x3) K dL_law_1563 rfl ?_
  obtain ⟨p356, e355, h⟩ := wbd h
  refine Vw.cH1 (pc := 1564) (v := .inl p356.1) (c' := c + 1) (n' := n + 6) K (s_L_sameSite K.tr e355) cal_L_sameSite u_5_134 rfl ⟨by decide, by decide⟩ ⟨by omega, by omega⟩ rfl (Nat.le_of_ble_eq_true rfl) dL_law_1564 rfl rfl ?_
  refine Vw.istore (pc := 1567) K dL_law_1567 (by decide) ?_
  refine Vw.aload_n (pc := 1569) (x := x2) K dL_law_1569 rfl ?_
  refine Vw.aload_n (pc := 1570) (x := 92) K dL_law_1570 rfl ?_
  refine Vw.iload (pc := 1571) (x := x4) K dL_law_1571 rfl ?_
  refine Vw.iconst (pc := 1573) (v := (1 : Int32)) K (by decide) dL_law_1573 ?_
  refine Vw.iadd (pc := 1574) K dL_law_1574 ?_
  obtain ⟨g357, h⟩ := wgd h
  refine Vw.sld (pc := 1575) K hX g357 dL_law_1575 ?_
  obtain ⟨g358, h⟩ := wgd h
  obtain ⟨p360, e359, h⟩ := wbd h
  refine Vw.cV1 (pc := 1576) (v := .inl p360.1) (c' := c + 1) (n' := n + 6) K (s_X9_sameSite K.tr e359) cal_X9_sameSite cls7 u_8_43 g358 rfl ⟨by decide, by decide⟩ ⟨by omega, by omega⟩ rfl (Nat.le_of_ble_eq_true rfl) dL_law_1576 rfl rfl ?_
  refine Vw.istore (pc := 1579) K dL_law_1579 (by decide) ?_
  refine Vw.aload_n (pc := 1581) (x := x2) K dL_law_1581 rfl ?_
  obtain ⟨g361, h⟩ := wgd h
  obtain ⟨v363, e362, h⟩ := wbd h
  refine Vw.cV1 (pc := 1582) (v := .inl v363) (c' := c + 1) (n' := n + 6) K (s_X9_thrown K.tr e362) cal_X9_thrown cls7 u_6_134 g361 rfl ⟨by decide, by decide⟩ ⟨by omega, by omega⟩ rfl (Nat.le_of_ble_eq_true rfl) dL_law_1582 rfl rfl ?_
  refine Vw.iload (pc := 1585) (x := p356.1) K dL_law_1585 rfl ?_
  refine Vw.icmp_eq (pc := 1587) (tgt := 1592) K dL_law_1587 (by decide) (fun c364 => ?_) (fun c364 => ?_)
  · have h := wpos c364 h
    refine Vw.iload (pc := 1592) (x := p356.1) K dL_law_1592 rfl ?_
    refine Vw.if_ne (pc := 1594) (tgt := 1609) K dL_law_1594 (by decide) (fun c365 => ?_) (fun c365 => ?_)
    · have h := wneg c365 h
      refine Vw.goto (pc := 1609) (tgt := 2228) K dL_law_1609 (by decide) ?_
      exact Vw.loc rfl (s_L_law_2228 K E hX (fu := fu) (by omega) (by omega) hr23 h)
    · have h := wpos c365 h
      refine Vw.aload_n (pc := 1597) (x := x3) K dL_law_1597 rfl ?_
      refine Vw.iconst (pc := 1598) (v := (0 : Int32)) K (by decide) dL_law_1598 ?_
      obtain ⟨g366, h⟩ := wgd h
      obtain ⟨g367, h⟩ := wgd h
      refine Vw.laload (pc := 1599) K g366 g367 dL_law_1599 ?_
      refine Vw.iload (pc := 1600) (x := p360.1) K dL_law_1600 rfl ?_
      refine Vw.i2l (pc := 1602) K dL_law_1602 ?_
      refine Vw.lcmp_eq (pc := 1603) (tgt := 1609) K dL_law_1603 dL_law_1604 (by decide) (fun c368 => ?_) (fun c368 => ?_)
      · have h := wpos c368 h
        refine Vw.goto (pc := 1609) (tgt := 2228) K dL_law_1609 (by decide) ?_
        exact Vw.loc rfl (s_L_law_2228 K E hX (fu := fu) (by omega) (by omega) hr23 h)
      · have h := wneg c368 h
        refine Vw.iconst (pc := 1607) (v := (0 : Int32)) K (by decide) dL_law_1607 ?_
        exact Vw.lawret (pc := 1608) K E h (by omega) (by omega) dL_law_1608
  · have h := wneg c364 h
    refine Vw.iconst (pc := 1590) (v := (0 : Int32)) K (by decide) dL_law_1590 ?_
    exact Vw.lawret (pc := 1591) K E h (by omega) (by omega) dL_law_1591
def k_L_law_1612 (xs : Nat → Int32) (Ln : Nat) (rec23 : Hp → Int32 → Option Int32) (A : Hp) (x1 : Nat) (x2 : Nat) (x3 : Nat) (x4 : Int32)  : Option Int32 := if wix (x4 + (1 : Int32)) Ln then ((f_L_priority A x1 (xs (x4 + (1 : Int32)).toNatClampNeg) x3).bind fun p371 => if wix (x4 + (1 : Int32)) Ln then if (hsh p371.2 x2).1 = 8 then ((f_X9_priority p371.2 x2 (xs (x4 + (1 : Int32)).toNatClampNeg)).bind fun p375 => if (hsh p375.2 x2).1 = 8 then ((f_X9_thrown p375.2 x2).bind fun v378 => (if v378 = p371.1 then (if p371.1 = (0 : Int32) then if (hsh p375.2 x3).1 = 11 then if wix (0 : Int32) (hsh p375.2 x3).2 then (if (hgL p375.2 1035 x3 (0 : Int32).toNatClampNeg) = p375.1.toInt64 then k_L_law_2228 xs Ln rec23 p375.2 x1 x2 x3 x4 else some (0 : Int32)) else none else none else k_L_law_2228 xs Ln rec23 p375.2 x1 x2 x3 x4) else some (0 : Int32))) else none) else none else none) else none
set_option maxRecDepth 100000 in
theorem s_L_law_1612 {κ : KT} {xs : Nat → Int32} {Ln : Nat} {rec23 : Hp → Int32 → Option Int32} {A : Hp} {x1 : Nat} {x2 : Nat} {x3 : Nat} {x4 : Int32}  {c n fu : Nat} (K : Cx κ cL_law 8 RL 14 540 601024 7293034) (E : EdW κ) (hX : SX κ Ln xs) (hc9 : c + fu * 423 + 1 ≤ 217462) (hn9 : n + fu * 8600 + 6 ≤ 4447408) (hr23 : ∀ (c n : Nat) (A : Hp) (x4 : Int32), c + fu * 423 ≤ 217462 → n + fu * 8600 ≤ 4447408 → rec23 A x4 = some 1 → Vw κ A c n 23 [(0, .inr (.inr 92)), (1, .inr (.inr x1)), (2, .inr (.inr x2)), (3, .inr (.inr x3)), (4, .inl x4)] []) (h : k_L_law_1612 xs Ln rec23 A x1 x2 x3 x4  = some 1) : Vw κ A c n 1612 [(0, .inr (.inr 92)), (1, .inr (.inr x1)), (2, .inr (.inr x2)), (3, .inr (.inr x3)), (4, .inl x4)] [] := by
  unfold k_L_law_1612 at h
  refine Vw.aload_n (pc := 1612) (x := x1) K dL_law_1612 rfl ?_
  refine Vw.aload_n (pc := 1613) (x := 92) K dL_law_1613 rfl ?_
  refine Vw.iload (pc := 1614) (x := x4) K dL_law_1614 rfl ?_
  refine Vw.iconst (pc := 1616) (v := (1 : Int32)) K (by decide) dL_law_1616 ?_
  refine Vw.iadd (pc := 1617) K dL_law_1617 ?_
  obtain ⟨g369, h⟩ := wgd h
  refine Vw.sld (pc := 1618) K hX g369 dL_law_1618 ?_
  refine Vw.aload_n (pc := 1619) (x := x3) K dL_law_1619 rfl ?_
  obtain ⟨p371, e370, h⟩ := wbd h
  refine Vw.cH1 (pc := 1620) (v := .inl p371.1) (c' := c + 1) (n' := n + 6) K (s_L_priority K.tr e370) cal_L_priority u_5_141 rfl ⟨by decide, by decide⟩ ⟨by omega, by omega⟩ rfl (Nat.le_of_ble_eq_true rfl) dL_law_1620 rfl rfl ?_
  refine Vw.istore (pc := 1623) K dL_law_1623 (by decide) ?_
  refine Vw.aload_n (pc := 1625) (x := x2) K dL_law_1625 rfl ?_
  refine Vw.aload_n (pc := 1626) (x := 92) K dL_law_1626 rfl ?_
  refine Vw.iload (pc := 1627) (x := x4) K dL_law_1627 rfl ?_
  refine Vw.iconst (pc := 1629) (v := (1 : Int32)) K (by decide) dL_law_1629 ?_
  refine Vw.iadd (pc := 1630) K dL_law_1630 ?_
  obtain ⟨g372, h⟩ := wgd h
  refine Vw.sld (pc := 1631) K hX g372 dL_law_1631 ?_
  obtain ⟨g373, h⟩ := wgd h
  obtain ⟨p375, e374, h⟩ := wbd h
  refine Vw.cV1 (pc := 1632) (v := .inl p375.1) (c' := c + 1) (n' := n + 6) K (s_X9_priority K.tr e374) cal_X9_priority cls7 u_8_47 g373 rfl ⟨by decide, by decide⟩ ⟨by omega, by omega⟩ rfl (Nat.le_of_ble_eq_true rfl) dL_law_1632 rfl rfl ?_
  refine Vw.istore (pc := 1635) K dL_law_1635 (by decide) ?_
  refine Vw.aload_n (pc := 1637) (x := x2) K dL_law_1637 rfl ?_
  obtain ⟨g376, h⟩ := wgd h
  obtain ⟨v378, e377, h⟩ := wbd h
  refine Vw.cV1 (pc := 1638) (v := .inl v378) (c' := c + 1) (n' := n + 6) K (s_X9_thrown K.tr e377) cal_X9_thrown cls7 u_6_134 g376 rfl ⟨by decide, by decide⟩ ⟨by omega, by omega⟩ rfl (Nat.le_of_ble_eq_true rfl) dL_law_1638 rfl rfl ?_
  refine Vw.iload (pc := 1641) (x := p371.1) K dL_law_1641 rfl ?_
  refine Vw.icmp_eq (pc := 1643) (tgt := 1648) K dL_law_1643 (by decide) (fun c379 => ?_) (fun c379 => ?_)
  · have h := wpos c379 h
    refine Vw.iload (pc := 1648) (x := p371.1) K dL_law_1648 rfl ?_
    refine Vw.if_ne (pc := 1650) (tgt := 1665) K dL_law_1650 (by decide) (fun c380 => ?_) (fun c380 => ?_)
    · have h := wneg c380 h
      refine Vw.goto (pc := 1665) (tgt := 2228) K dL_law_1665 (by decide) ?_
      exact Vw.loc rfl (s_L_law_2228 K E hX (fu := fu) (by omega) (by omega) hr23 h)
    · have h := wpos c380 h
      refine Vw.aload_n (pc := 1653) (x := x3) K dL_law_1653 rfl ?_
      refine Vw.iconst (pc := 1654) (v := (0 : Int32)) K (by decide) dL_law_1654 ?_
      obtain ⟨g381, h⟩ := wgd h
      obtain ⟨g382, h⟩ := wgd h
      refine Vw.laload (pc := 1655) K g381 g382 dL_law_1655 ?_
      refine Vw.iload (pc := 1656) (x := p375.1) K dL_law_1656 rfl ?_
      refine Vw.i2l (pc := 1658) K dL_law_1658 ?_
      refine Vw.lcmp_eq (pc := 1659) (tgt := 1665) K dL_law_1659 dL_law_1660 (by decide) (fun c383 => ?_) (fun c383 => ?_)
      · have h := wpos c383 h
        refine Vw.goto (pc := 1665) (tgt := 2228) K dL_law_1665 (by decide) ?_
        exact Vw.loc rfl (s_L_law_2228 K E hX (fu := fu) (by omega) (by omega) hr23 h)
      · have h := wneg c383 h
        refine Vw.iconst (pc := 1663) (v := (0 : Int32)) K (by decide) dL_law_1663 ?_
        exact Vw.lawret (pc := 1664) K E h (by omega) (by omega) dL_law_1664
  · have h := wneg c379 h
    refine Vw.iconst (pc := 1646) (v := (0 : Int32)) K (by decide) dL_law_1646 ?_
    exact Vw.lawret (pc := 1647) K E h (by omega) (by omega) dL_law_1647
def k_L_law_1668 (xs : Nat → Int32) (Ln : Nat) (rec23 : Hp → Int32 → Option Int32) (A : Hp) (x1 : Nat) (x2 : Nat) (x3 : Nat) (x4 : Int32)  : Option Int32 := ((f_L_firstFrom A x1 x3).bind fun p385 => if (hsh p385.2 x2).1 = 8 then ((f_X9_firstFrom p385.2 x2).bind fun p388 => if (hsh p388.2 x2).1 = 8 then ((f_X9_thrown p388.2 x2).bind fun v391 => (if v391 = p385.1 then (if p385.1 = (0 : Int32) then if (hsh p388.2 x3).1 = 11 then if wix (0 : Int32) (hsh p388.2 x3).2 then (if (hgL p388.2 1035 x3 (0 : Int32).toNatClampNeg) = p388.1.toInt64 then k_L_law_2228 xs Ln rec23 p388.2 x1 x2 x3 x4 else some (0 : Int32)) else none else none else k_L_law_2228 xs Ln rec23 p388.2 x1 x2 x3 x4) else some (0 : Int32))) else none) else none)
set_option maxRecDepth 100000 in
theorem s_L_law_1668 {κ : KT} {xs : Nat → Int32} {Ln : Nat} {rec23 : Hp → Int32 → Option Int32} {A : Hp} {x1 : Nat} {x2 : Nat} {x3 : Nat} {x4 : Int32}  {c n fu : Nat} (K : Cx κ cL_law 8 RL 14 540 601024 7293034) (E : EdW κ) (hX : SX κ Ln xs) (hc9 : c + fu * 423 + 1 ≤ 217462) (hn9 : n + fu * 8600 + 6 ≤ 4447408) (hr23 : ∀ (c n : Nat) (A : Hp) (x4 : Int32), c + fu * 423 ≤ 217462 → n + fu * 8600 ≤ 4447408 → rec23 A x4 = some 1 → Vw κ A c n 23 [(0, .inr (.inr 92)), (1, .inr (.inr x1)), (2, .inr (.inr x2)), (3, .inr (.inr x3)), (4, .inl x4)] []) (h : k_L_law_1668 xs Ln rec23 A x1 x2 x3 x4  = some 1) : Vw κ A c n 1668 [(0, .inr (.inr 92)), (1, .inr (.inr x1)), (2, .inr (.inr x2)), (3, .inr (.inr x3)), (4, .inl x4)] [] := by
  unfold k_L_law_1668 at h
  refine Vw.aload_n (pc := 1668) (x := x1) K dL_law_1668 rfl ?_
  refine Vw.aload_n (pc := 1669) (x := x3) K dL_law_1669 rfl ?_
  obtain ⟨p385, e384, h⟩ := wbd h
  refine Vw.cH1 (pc := 1670) (v := .inl p385.1) (c' := c + 1) (n' := n + 6) K (s_L_firstFrom K.tr e384) cal_L_firstFrom u_5_148 rfl ⟨by decide, by decide⟩ ⟨by omega, by omega⟩ rfl (Nat.le_of_ble_eq_true rfl) dL_law_1670 rfl rfl ?_
  refine Vw.istore (pc := 1673) K dL_law_1673 (by decide) ?_
  refine Vw.aload_n (pc := 1675) (x := x2) K dL_law_1675 rfl ?_
  obtain ⟨g386, h⟩ := wgd h
  obtain ⟨p388, e387, h⟩ := wbd h
  refine Vw.cV1 (pc := 1676) (v := .inl p388.1) (c' := c + 1) (n' := n + 6) K (s_X9_firstFrom K.tr e387) cal_X9_firstFrom cls7 u_8_51 g386 rfl ⟨by decide, by decide⟩ ⟨by omega, by omega⟩ rfl (Nat.le_of_ble_eq_true rfl) dL_law_1676 rfl rfl ?_
  refine Vw.istore (pc := 1679) K dL_law_1679 (by decide) ?_
  refine Vw.aload_n (pc := 1681) (x := x2) K dL_law_1681 rfl ?_
  obtain ⟨g389, h⟩ := wgd h
  obtain ⟨v391, e390, h⟩ := wbd h
  refine Vw.cV1 (pc := 1682) (v := .inl v391) (c' := c + 1) (n' := n + 6) K (s_X9_thrown K.tr e390) cal_X9_thrown cls7 u_6_134 g389 rfl ⟨by decide, by decide⟩ ⟨by omega, by omega⟩ rfl (Nat.le_of_ble_eq_true rfl) dL_law_1682 rfl rfl ?_
  refine Vw.iload (pc := 1685) (x := p385.1) K dL_law_1685 rfl ?_
  refine Vw.icmp_eq (pc := 1687) (tgt := 1692) K dL_law_1687 (by decide) (fun c392 => ?_) (fun c392 => ?_)
  · have h := wpos c392 h
    refine Vw.iload (pc := 1692) (x := p385.1) K dL_law_1692 rfl ?_
    refine Vw.if_ne (pc := 1694) (tgt := 1709) K dL_law_1694 (by decide) (fun c393 => ?_) (fun c393 => ?_)
    · have h := wneg c393 h
      refine Vw.goto (pc := 1709) (tgt := 2228) K dL_law_1709 (by decide) ?_
      exact Vw.loc rfl (s_L_law_2228 K E hX (fu := fu) (by omega) (by omega) hr23 h)
    · have h := wpos c393 h
      refine Vw.aload_n (pc := 1697) (x := x3) K dL_law_1697 rfl ?_
      refine Vw.iconst (pc := 1698) (v := (0 : Int32)) K (by decide) dL_law_1698 ?_
      obtain ⟨g394, h⟩ := wgd h
      obtain ⟨g395, h⟩ := wgd h
      refine Vw.laload (pc := 1699) K g394 g395 dL_law_1699 ?_
      refine Vw.iload (pc := 1700) (x := p388.1) K dL_law_1700 rfl ?_
      refine Vw.i2l (pc := 1702) K dL_law_1702 ?_
      refine Vw.lcmp_eq (pc := 1703) (tgt := 1709) K dL_law_1703 dL_law_1704 (by decide) (fun c396 => ?_) (fun c396 => ?_)
      · have h := wpos c396 h
        refine Vw.goto (pc := 1709) (tgt := 2228) K dL_law_1709 (by decide) ?_
        exact Vw.loc rfl (s_L_law_2228 K E hX (fu := fu) (by omega) (by omega) hr23 h)
      · have h := wneg c396 h
        refine Vw.iconst (pc := 1707) (v := (0 : Int32)) K (by decide) dL_law_1707 ?_
        exact Vw.lawret (pc := 1708) K E h (by omega) (by omega) dL_law_1708
  · have h := wneg c392 h
    refine Vw.iconst (pc := 1690) (v := (0 : Int32)) K (by decide) dL_law_1690 ?_
    exact Vw.lawret (pc := 1691) K E h (by omega) (by omega) dL_law_1691
def k_L_law_1712 (xs : Nat → Int32) (Ln : Nat) (rec23 : Hp → Int32 → Option Int32) (A : Hp) (x1 : Nat) (x2 : Nat) (x3 : Nat) (x4 : Int32)  : Option Int32 := if wix (x4 + (1 : Int32)) Ln then ((f_L_remove A x1 (xs (x4 + (1 : Int32)).toNatClampNeg) x3).bind fun p399 => if wix (x4 + (1 : Int32)) Ln then if (hsh p399.2 x2).1 = 8 then ((f_X9_remove p399.2 x2 (xs (x4 + (1 : Int32)).toNatClampNeg)).bind fun p403 => if (hsh p403.2 x2).1 = 8 then ((f_X9_thrown p403.2 x2).bind fun v406 => (if v406 = p399.1 then (if p399.1 = (0 : Int32) then if (hsh p403.2 x3).1 = 11 then if wix (0 : Int32) (hsh p403.2 x3).2 then (if (hgL p403.2 1035 x3 (0 : Int32).toNatClampNeg) = p403.1.toInt64 then k_L_law_2228 xs Ln rec23 p403.2 x1 x2 x3 x4 else some (0 : Int32)) else none else none else k_L_law_2228 xs Ln rec23 p403.2 x1 x2 x3 x4) else some (0 : Int32))) else none) else none else none) else none
set_option maxRecDepth 100000 in
theorem s_L_law_1712 {κ : KT} {xs : Nat → Int32} {Ln : Nat} {rec23 : Hp → Int32 → Option Int32} {A : Hp} {x1 : Nat} {x2 : Nat} {x3 : Nat} {x4 : Int32}  {c n fu : Nat} (K : Cx κ cL_law 8 RL 14 540 601024 7293034) (E : EdW κ) (hX : SX κ Ln xs) (hc9 : c + fu * 423 + 1 ≤ 217462) (hn9 : n + fu * 8600 + 6 ≤ 4447408) (hr23 : ∀ (c n : Nat) (A : Hp) (x4 : Int32), c + fu * 423 ≤ 217462 → n + fu * 8600 ≤ 4447408 → rec23 A x4 = some 1 → Vw κ A c n 23 [(0, .inr (.inr 92)), (1, .inr (.inr x1)), (2, .inr (.inr x2)), (3, .inr (.inr x3)), (4, .inl x4)] []) (h : k_L_law_1712 xs Ln rec23 A x1 x2 x3 x4  = some 1) : Vw κ A c n 1712 [(0, .inr (.inr 92)), (1, .inr (.inr x1)), (2, .inr (.inr x2)), (3, .inr (.inr x3)), (4, .inl x4)] [] := by
  unfold k_L_law_1712 at h
  refine Vw.aload_n (pc := 1712) (x := x1) K dL_law_1712 rfl ?_
  refine Vw.aload_n (pc := 1713) (x := 92) K dL_law_1713 rfl ?_
  refine Vw.iload (pc := 1714) (x := x4) K dL_law_1714 rfl ?_
  refine Vw.iconst (pc := 1716) (v := (1 : Int32)) K (by decide) dL_law_1716 ?_
  refine Vw.iadd (pc := 1717) K dL_law_1717 ?_
  obtain ⟨g397, h⟩ := wgd h
  refine Vw.sld (pc := 1718) K hX g397 dL_law_1718 ?_
  refine Vw.aload_n (pc := 1719) (x := x3) K dL_law_1719 rfl ?_
  obtain ⟨p399, e398, h⟩ := wbd h
  refine Vw.cH1 (pc := 1720) (v := .inl p399.1) (c' := c + 1) (n' := n + 6) K (s_L_remove K.tr e398) cal_L_remove u_5_160 rfl ⟨by decide, by decide⟩ ⟨by omega, by omega⟩ rfl (Nat.le_of_ble_eq_true rfl) dL_law_1720 rfl rfl ?_
  refine Vw.istore (pc := 1723) K dL_law_1723 (by decide) ?_
  refine Vw.aload_n (pc := 1725) (x := x2) K dL_law_1725 rfl ?_
  refine Vw.aload_n (pc := 1726) (x := 92) K dL_law_1726 rfl ?_
  refine Vw.iload (pc := 1727) (x := x4) K dL_law_1727 rfl ?_
  refine Vw.iconst (pc := 1729) (v := (1 : Int32)) K (by decide) dL_law_1729 ?_
  refine Vw.iadd (pc := 1730) K dL_law_1730 ?_
  obtain ⟨g400, h⟩ := wgd h
  refine Vw.sld (pc := 1731) K hX g400 dL_law_1731 ?_
  obtain ⟨g401, h⟩ := wgd h
  obtain ⟨p403, e402, h⟩ := wbd h
  refine Vw.cV1 (pc := 1732) (v := .inl p403.1) (c' := c + 1) (n' := n + 6) K (s_X9_remove K.tr e402) cal_X9_remove cls7 u_8_55 g401 rfl ⟨by decide, by decide⟩ ⟨by omega, by omega⟩ rfl (Nat.le_of_ble_eq_true rfl) dL_law_1732 rfl rfl ?_
  refine Vw.istore (pc := 1735) K dL_law_1735 (by decide) ?_
  refine Vw.aload_n (pc := 1737) (x := x2) K dL_law_1737 rfl ?_
  obtain ⟨g404, h⟩ := wgd h
  obtain ⟨v406, e405, h⟩ := wbd h
  refine Vw.cV1 (pc := 1738) (v := .inl v406) (c' := c + 1) (n' := n + 6) K (s_X9_thrown K.tr e405) cal_X9_thrown cls7 u_6_134 g404 rfl ⟨by decide, by decide⟩ ⟨by omega, by omega⟩ rfl (Nat.le_of_ble_eq_true rfl) dL_law_1738 rfl rfl ?_
  refine Vw.iload (pc := 1741) (x := p399.1) K dL_law_1741 rfl ?_
  refine Vw.icmp_eq (pc := 1743) (tgt := 1748) K dL_law_1743 (by decide) (fun c407 => ?_) (fun c407 => ?_)
  · have h := wpos c407 h
    refine Vw.iload (pc := 1748) (x := p399.1) K dL_law_1748 rfl ?_
    refine Vw.if_ne (pc := 1750) (tgt := 1765) K dL_law_1750 (by decide) (fun c408 => ?_) (fun c408 => ?_)
    · have h := wneg c408 h
      refine Vw.goto (pc := 1765) (tgt := 2228) K dL_law_1765 (by decide) ?_
      exact Vw.loc rfl (s_L_law_2228 K E hX (fu := fu) (by omega) (by omega) hr23 h)
    · have h := wpos c408 h
      refine Vw.aload_n (pc := 1753) (x := x3) K dL_law_1753 rfl ?_
      refine Vw.iconst (pc := 1754) (v := (0 : Int32)) K (by decide) dL_law_1754 ?_
      obtain ⟨g409, h⟩ := wgd h
      obtain ⟨g410, h⟩ := wgd h
      refine Vw.laload (pc := 1755) K g409 g410 dL_law_1755 ?_
      refine Vw.iload (pc := 1756) (x := p403.1) K dL_law_1756 rfl ?_
      refine Vw.i2l (pc := 1758) K dL_law_1758 ?_
      refine Vw.lcmp_eq (pc := 1759) (tgt := 1765) K dL_law_1759 dL_law_1760 (by decide) (fun c411 => ?_) (fun c411 => ?_)
      · have h := wpos c411 h
        refine Vw.goto (pc := 1765) (tgt := 2228) K dL_law_1765 (by decide) ?_
        exact Vw.loc rfl (s_L_law_2228 K E hX (fu := fu) (by omega) (by omega) hr23 h)
      · have h := wneg c411 h
        refine Vw.iconst (pc := 1763) (v := (0 : Int32)) K (by decide) dL_law_1763 ?_
        exact Vw.lawret (pc := 1764) K E h (by omega) (by omega) dL_law_1764
  · have h := wneg c407 h
    refine Vw.iconst (pc := 1746) (v := (0 : Int32)) K (by decide) dL_law_1746 ?_
    exact Vw.lawret (pc := 1747) K E h (by omega) (by omega) dL_law_1747
def k_L_law_1768 (xs : Nat → Int32) (Ln : Nat) (rec23 : Hp → Int32 → Option Int32) (A : Hp) (x1 : Nat) (x2 : Nat) (x3 : Nat) (x4 : Int32)  : Option Int32 := ((f_L_clearSite A x1 x3).bind fun p413 => if (hsh p413.2 x2).1 = 8 then ((f_X9_clearSite p413.2 x2).bind fun p416 => if (hsh p416.2 x2).1 = 8 then ((f_X9_thrown p416.2 x2).bind fun v419 => (if v419 = p413.1 then (if p413.1 = (0 : Int32) then if (hsh p416.2 x3).1 = 11 then if wix (0 : Int32) (hsh p416.2 x3).2 then (if (hgL p416.2 1035 x3 (0 : Int32).toNatClampNeg) = p416.1.toInt64 then k_L_law_2228 xs Ln rec23 p416.2 x1 x2 x3 x4 else some (0 : Int32)) else none else none else k_L_law_2228 xs Ln rec23 p416.2 x1 x2 x3 x4) else some (0 : Int32))) else none) else none)
set_option maxRecDepth 100000 in
theorem s_L_law_1768 {κ : KT} {xs : Nat → Int32} {Ln : Nat} {rec23 : Hp → Int32 → Option Int32} {A : Hp} {x1 : Nat} {x2 : Nat} {x3 : Nat} {x4 : Int32}  {c n fu : Nat} (K : Cx κ cL_law 8 RL 14 540 601024 7293034) (E : EdW κ) (hX : SX κ Ln xs) (hc9 : c + fu * 423 + 1 ≤ 217462) (hn9 : n + fu * 8600 + 6 ≤ 4447408) (hr23 : ∀ (c n : Nat) (A : Hp) (x4 : Int32), c + fu * 423 ≤ 217462 → n + fu * 8600 ≤ 4447408 → rec23 A x4 = some 1 → Vw κ A c n 23 [(0, .inr (.inr 92)), (1, .inr (.inr x1)), (2, .inr (.inr x2)), (3, .inr (.inr x3)), (4, .inl x4)] []) (h : k_L_law_1768 xs Ln rec23 A x1 x2 x3 x4  = some 1) : Vw κ A c n 1768 [(0, .inr (.inr 92)), (1, .inr (.inr x1)), (2, .inr (.inr x2)), (3, .inr (.inr x3)), (4, .inl x4)] [] := by
  unfold k_L_law_1768 at h
  refine Vw.aload_n (pc := 1768) (x := x1) K dL_law_1768 rfl ?_
  refine Vw.aload_n (pc := 1769) (x := x3) K dL_law_1769 rfl ?_
  obtain ⟨p413, e412, h⟩ := wbd h
  refine Vw.cH1 (pc := 1770) (v := .inl p413.1) (c' := c + 1) (n' := n + 6) K (s_L_clearSite K.tr e412) cal_L_clearSite u_5_168 rfl ⟨by decide, by decide⟩ ⟨by omega, by omega⟩ rfl (Nat.le_of_ble_eq_true rfl) dL_law_1770 rfl rfl ?_
  refine Vw.istore (pc := 1773) K dL_law_1773 (by decide) ?_
  refine Vw.aload_n (pc := 1775) (x := x2) K dL_law_1775 rfl ?_
  obtain ⟨g414, h⟩ := wgd h
  obtain ⟨p416, e415, h⟩ := wbd h
  refine Vw.cV1 (pc := 1776) (v := .inl p416.1) (c' := c + 1) (n' := n + 6) K (s_X9_clearSite K.tr e415) cal_X9_clearSite cls7 u_8_59 g414 rfl ⟨by decide, by decide⟩ ⟨by omega, by omega⟩ rfl (Nat.le_of_ble_eq_true rfl) dL_law_1776 rfl rfl ?_
  refine Vw.istore (pc := 1779) K dL_law_1779 (by decide) ?_
  refine Vw.aload_n (pc := 1781) (x := x2) K dL_law_1781 rfl ?_
  obtain ⟨g417, h⟩ := wgd h
  obtain ⟨v419, e418, h⟩ := wbd h
  refine Vw.cV1 (pc := 1782) (v := .inl v419) (c' := c + 1) (n' := n + 6) K (s_X9_thrown K.tr e418) cal_X9_thrown cls7 u_6_134 g417 rfl ⟨by decide, by decide⟩ ⟨by omega, by omega⟩ rfl (Nat.le_of_ble_eq_true rfl) dL_law_1782 rfl rfl ?_
  refine Vw.iload (pc := 1785) (x := p413.1) K dL_law_1785 rfl ?_
  refine Vw.icmp_eq (pc := 1787) (tgt := 1792) K dL_law_1787 (by decide) (fun c420 => ?_) (fun c420 => ?_)
  · have h := wpos c420 h
    refine Vw.iload (pc := 1792) (x := p413.1) K dL_law_1792 rfl ?_
    refine Vw.if_ne (pc := 1794) (tgt := 1809) K dL_law_1794 (by decide) (fun c421 => ?_) (fun c421 => ?_)
    · have h := wneg c421 h
      refine Vw.goto (pc := 1809) (tgt := 2228) K dL_law_1809 (by decide) ?_
      exact Vw.loc rfl (s_L_law_2228 K E hX (fu := fu) (by omega) (by omega) hr23 h)
    · have h := wpos c421 h
      refine Vw.aload_n (pc := 1797) (x := x3) K dL_law_1797 rfl ?_
      refine Vw.iconst (pc := 1798) (v := (0 : Int32)) K (by decide) dL_law_1798 ?_
      obtain ⟨g422, h⟩ := wgd h
      obtain ⟨g423, h⟩ := wgd h
      refine Vw.laload (pc := 1799) K g422 g423 dL_law_1799 ?_
      refine Vw.iload (pc := 1800) (x := p416.1) K dL_law_1800 rfl ?_
      refine Vw.i2l (pc := 1802) K dL_law_1802 ?_
      refine Vw.lcmp_eq (pc := 1803) (tgt := 1809) K dL_law_1803 dL_law_1804 (by decide) (fun c424 => ?_) (fun c424 => ?_)
      · have h := wpos c424 h
        refine Vw.goto (pc := 1809) (tgt := 2228) K dL_law_1809 (by decide) ?_
        exact Vw.loc rfl (s_L_law_2228 K E hX (fu := fu) (by omega) (by omega) hr23 h)
      · have h := wneg c424 h
        refine Vw.iconst (pc := 1807) (v := (0 : Int32)) K (by decide) dL_law_1807 ?_
        exact Vw.lawret (pc := 1808) K E h (by omega) (by omega) dL_law_1808
  · have h := wneg c420 h
    refine Vw.iconst (pc := 1790) (v := (0 : Int32)) K (by decide) dL_law_1790 ?_
    exact Vw.lawret (pc := 1791) K E h (by omega) (by omega) dL_law_1791
def k_L_law_1812 (xs : Nat → Int32) (Ln : Nat) (rec23 : Hp → Int32 → Option Int32) (A : Hp) (x1 : Nat) (x2 : Nat) (x3 : Nat) (x4 : Int32)  : Option Int32 := if (hsh A x1).1 = 7 then ((f_X8_endSession A x1).bind fun p427 => if (hsh p427.2 x2).1 = 8 then ((f_X9_endSession p427.2 x2).bind fun p430 => (if p427.1 = p430.1 then k_L_law_2228 xs Ln rec23 p430.2 x1 x2 x3 x4 else some (0 : Int32))) else none) else none
set_option maxRecDepth 100000 in
theorem s_L_law_1812 {κ : KT} {xs : Nat → Int32} {Ln : Nat} {rec23 : Hp → Int32 → Option Int32} {A : Hp} {x1 : Nat} {x2 : Nat} {x3 : Nat} {x4 : Int32}  {c n fu : Nat} (K : Cx κ cL_law 8 RL 14 540 601024 7293034) (E : EdW κ) (hX : SX κ Ln xs) (hc9 : c + fu * 423 + 0 ≤ 217462) (hn9 : n + fu * 8600 + 0 ≤ 4447408) (hr23 : ∀ (c n : Nat) (A : Hp) (x4 : Int32), c + fu * 423 ≤ 217462 → n + fu * 8600 ≤ 4447408 → rec23 A x4 = some 1 → Vw κ A c n 23 [(0, .inr (.inr 92)), (1, .inr (.inr x1)), (2, .inr (.inr x2)), (3, .inr (.inr x3)), (4, .inl x4)] []) (h : k_L_law_1812 xs Ln rec23 A x1 x2 x3 x4  = some 1) : Vw κ A c n 1812 [(0, .inr (.inr 92)), (1, .inr (.inr x1)), (2, .inr (.inr x2)), (3, .inr (.inr x3)), (4, .inl x4)] [] := by
  unfold k_L_law_1812 at h
  refine Vw.aload_n (pc := 1812) (x := x1) K dL_law_1812 rfl ?_
  obtain ⟨g425, h⟩ := wgd h
  obtain ⟨p427, e426, h⟩ := wbd h
  refine Vw.cV1 (pc := 1813) (v := .inl p427.1) (c' := c) (n' := n) K (s_X8_endSession K.tr e426) cal_X8_endSession cls6 u_2_196 g425 rfl ⟨by decide, by decide⟩ ⟨by omega, by omega⟩ rfl (Nat.le_of_ble_eq_true rfl) dL_law_1813 rfl rfl ?_
  refine Vw.aload_n (pc := 1816) (x := x2) K dL_law_1816 rfl ?_
  obtain ⟨g428, h⟩ := wgd h
  obtain ⟨p430, e429, h⟩ := wbd h
  refine Vw.cV1 (pc := 1817) (v := .inl p430.1) (c' := c) (n' := n) K (s_X9_endSession K.tr e429) cal_X9_endSession cls7 u_8_63 g428 rfl ⟨by decide, by decide⟩ ⟨by omega, by omega⟩ rfl (Nat.le_of_ble_eq_true rfl) dL_law_1817 rfl rfl ?_
  refine Vw.icmp_eq (pc := 1820) (tgt := 2228) K dL_law_1820 (by decide) (fun c431 => ?_) (fun c431 => ?_)
  · have h := wpos c431 h
    exact Vw.loc rfl (s_L_law_2228 K E hX (fu := fu) (by omega) (by omega) hr23 h)
  · have h := wneg c431 h
    refine Vw.iconst (pc := 1823) (v := (0 : Int32)) K (by decide) dL_law_1823 ?_
    exact Vw.lawret (pc := 1824) K E h (by omega) (by omega) dL_law_1824
def k_L_law_1825 (xs : Nat → Int32) (Ln : Nat) (rec23 : Hp → Int32 → Option Int32) (A : Hp) (x1 : Nat) (x2 : Nat) (x3 : Nat) (x4 : Int32)  : Option Int32 := if wix (x4 + (1 : Int32)) Ln then ((f_L_advance A x1 (xs (x4 + (1 : Int32)).toNatClampNeg) x3).bind fun p434 => if wix (x4 + (1 : Int32)) Ln then if (hsh p434.2 x2).1 = 8 then ((f_X9_advance p434.2 x2 (xs (x4 + (1 : Int32)).toNatClampNeg)).bind fun p438 => if (hsh p438.2 x2).1 = 8 then ((f_X9_thrown p438.2 x2).bind fun v441 => (if v441 = p434.1 then (if p434.1 = (0 : Int32) then if (hsh p438.2 x3).1 = 11 then if wix (0 : Int32) (hsh p438.2 x3).2 then (if (hgL p438.2 1035 x3 (0 : Int32).toNatClampNeg) = p438.1.toInt64 then k_L_law_2228 xs Ln rec23 p438.2 x1 x2 x3 x4 else some (0 : Int32)) else none else none else k_L_law_2228 xs Ln rec23 p438.2 x1 x2 x3 x4) else some (0 : Int32))) else none) else none else none) else none
set_option maxRecDepth 100000 in
theorem s_L_law_1825 {κ : KT} {xs : Nat → Int32} {Ln : Nat} {rec23 : Hp → Int32 → Option Int32} {A : Hp} {x1 : Nat} {x2 : Nat} {x3 : Nat} {x4 : Int32}  {c n fu : Nat} (K : Cx κ cL_law 8 RL 14 540 601024 7293034) (E : EdW κ) (hX : SX κ Ln xs) (hc9 : c + fu * 423 + 1 ≤ 217462) (hn9 : n + fu * 8600 + 6 ≤ 4447408) (hr23 : ∀ (c n : Nat) (A : Hp) (x4 : Int32), c + fu * 423 ≤ 217462 → n + fu * 8600 ≤ 4447408 → rec23 A x4 = some 1 → Vw κ A c n 23 [(0, .inr (.inr 92)), (1, .inr (.inr x1)), (2, .inr (.inr x2)), (3, .inr (.inr x3)), (4, .inl x4)] []) (h : k_L_law_1825 xs Ln rec23 A x1 x2 x3 x4  = some 1) : Vw κ A c n 1825 [(0, .inr (.inr 92)), (1, .inr (.inr x1)), (2, .inr (.inr x2)), (3, .inr (.inr x3)), (4, .inl x4)] [] := by
  unfold k_L_law_1825 at h
  refine Vw.aload_n (pc := 1825) (x := x1) K dL_law_1825 rfl ?_
  refine Vw.aload_n (pc := 1826) (x := 92) K dL_law_1826 rfl ?_
  refine Vw.iload (pc := 1827) (x := x4) K dL_law_1827 rfl ?_
  refine Vw.iconst (pc := 1829) (v := (1 : Int32)) K (by decide) dL_law_1829 ?_
  refine Vw.iadd (pc := 1830) K dL_law_1830 ?_
  obtain ⟨g432, h⟩ := wgd h
  refine Vw.sld (pc := 1831) K hX g432 dL_law_1831 ?_
  refine Vw.aload_n (pc := 1832) (x := x3) K dL_law_1832 rfl ?_
  obtain ⟨p434, e433, h⟩ := wbd h
  refine Vw.cH1 (pc := 1833) (v := .inl p434.1) (c' := c + 1) (n' := n + 6) K (s_L_advance K.tr e433) cal_L_advance u_5_179 rfl ⟨by decide, by decide⟩ ⟨by omega, by omega⟩ rfl (Nat.le_of_ble_eq_true rfl) dL_law_1833 rfl rfl ?_
  refine Vw.istore (pc := 1836) K dL_law_1836 (by decide) ?_
  refine Vw.aload_n (pc := 1838) (x := x2) K dL_law_1838 rfl ?_
  refine Vw.aload_n (pc := 1839) (x := 92) K dL_law_1839 rfl ?_
  refine Vw.iload (pc := 1840) (x := x4) K dL_law_1840 rfl ?_
  refine Vw.iconst (pc := 1842) (v := (1 : Int32)) K (by decide) dL_law_1842 ?_
  refine Vw.iadd (pc := 1843) K dL_law_1843 ?_
  obtain ⟨g435, h⟩ := wgd h
  refine Vw.sld (pc := 1844) K hX g435 dL_law_1844 ?_
  obtain ⟨g436, h⟩ := wgd h
  obtain ⟨p438, e437, h⟩ := wbd h
  refine Vw.cV1 (pc := 1845) (v := .inl p438.1) (c' := c + 1) (n' := n + 6) K (s_X9_advance K.tr e437) cal_X9_advance cls7 u_8_71 g436 rfl ⟨by decide, by decide⟩ ⟨by omega, by omega⟩ rfl (Nat.le_of_ble_eq_true rfl) dL_law_1845 rfl rfl ?_
  refine Vw.istore (pc := 1848) K dL_law_1848 (by decide) ?_
  refine Vw.aload_n (pc := 1850) (x := x2) K dL_law_1850 rfl ?_
  obtain ⟨g439, h⟩ := wgd h
  obtain ⟨v441, e440, h⟩ := wbd h
  refine Vw.cV1 (pc := 1851) (v := .inl v441) (c' := c + 1) (n' := n + 6) K (s_X9_thrown K.tr e440) cal_X9_thrown cls7 u_6_134 g439 rfl ⟨by decide, by decide⟩ ⟨by omega, by omega⟩ rfl (Nat.le_of_ble_eq_true rfl) dL_law_1851 rfl rfl ?_
  refine Vw.iload (pc := 1854) (x := p434.1) K dL_law_1854 rfl ?_
  refine Vw.icmp_eq (pc := 1856) (tgt := 1861) K dL_law_1856 (by decide) (fun c442 => ?_) (fun c442 => ?_)
  · have h := wpos c442 h
    refine Vw.iload (pc := 1861) (x := p434.1) K dL_law_1861 rfl ?_
    refine Vw.if_ne (pc := 1863) (tgt := 1878) K dL_law_1863 (by decide) (fun c443 => ?_) (fun c443 => ?_)
    · have h := wneg c443 h
      refine Vw.goto (pc := 1878) (tgt := 2228) K dL_law_1878 (by decide) ?_
      exact Vw.loc rfl (s_L_law_2228 K E hX (fu := fu) (by omega) (by omega) hr23 h)
    · have h := wpos c443 h
      refine Vw.aload_n (pc := 1866) (x := x3) K dL_law_1866 rfl ?_
      refine Vw.iconst (pc := 1867) (v := (0 : Int32)) K (by decide) dL_law_1867 ?_
      obtain ⟨g444, h⟩ := wgd h
      obtain ⟨g445, h⟩ := wgd h
      refine Vw.laload (pc := 1868) K g444 g445 dL_law_1868 ?_
      refine Vw.iload (pc := 1869) (x := p438.1) K dL_law_1869 rfl ?_
      refine Vw.i2l (pc := 1871) K dL_law_1871 ?_
      refine Vw.lcmp_eq (pc := 1872) (tgt := 1878) K dL_law_1872 dL_law_1873 (by decide) (fun c446 => ?_) (fun c446 => ?_)
      · have h := wpos c446 h
        refine Vw.goto (pc := 1878) (tgt := 2228) K dL_law_1878 (by decide) ?_
        exact Vw.loc rfl (s_L_law_2228 K E hX (fu := fu) (by omega) (by omega) hr23 h)
      · have h := wneg c446 h
        refine Vw.iconst (pc := 1876) (v := (0 : Int32)) K (by decide) dL_law_1876 ?_
        exact Vw.lawret (pc := 1877) K E h (by omega) (by omega) dL_law_1877
  · have h := wneg c442 h
    refine Vw.iconst (pc := 1859) (v := (0 : Int32)) K (by decide) dL_law_1859 ?_
    exact Vw.lawret (pc := 1860) K E h (by omega) (by omega) dL_law_1860
def k_L_law_1881 (xs : Nat → Int32) (Ln : Nat) (rec23 : Hp → Int32 → Option Int32) (A : Hp) (x1 : Nat) (x2 : Nat) (x3 : Nat) (x4 : Int32)  : Option Int32 := if (hsh A x1).1 = 7 then ((f_X8_time A x1).bind fun v449 => if (hsh A x2).1 = 8 then ((f_X9_time A x2).bind fun p452 => (if v449 = p452.1 then k_L_law_2228 xs Ln rec23 p452.2 x1 x2 x3 x4 else some (0 : Int32))) else none) else none
set_option maxRecDepth 100000 in
theorem s_L_law_1881 {κ : KT} {xs : Nat → Int32} {Ln : Nat} {rec23 : Hp → Int32 → Option Int32} {A : Hp} {x1 : Nat} {x2 : Nat} {x3 : Nat} {x4 : Int32}  {c n fu : Nat} (K : Cx κ cL_law 8 RL 14 540 601024 7293034) (E : EdW κ) (hX : SX κ Ln xs) (hc9 : c + fu * 423 + 0 ≤ 217462) (hn9 : n + fu * 8600 + 0 ≤ 4447408) (hr23 : ∀ (c n : Nat) (A : Hp) (x4 : Int32), c + fu * 423 ≤ 217462 → n + fu * 8600 ≤ 4447408 → rec23 A x4 = some 1 → Vw κ A c n 23 [(0, .inr (.inr 92)), (1, .inr (.inr x1)), (2, .inr (.inr x2)), (3, .inr (.inr x3)), (4, .inl x4)] []) (h : k_L_law_1881 xs Ln rec23 A x1 x2 x3 x4  = some 1) : Vw κ A c n 1881 [(0, .inr (.inr 92)), (1, .inr (.inr x1)), (2, .inr (.inr x2)), (3, .inr (.inr x3)), (4, .inl x4)] [] := by
  unfold k_L_law_1881 at h
  refine Vw.aload_n (pc := 1881) (x := x1) K dL_law_1881 rfl ?_
  obtain ⟨g447, h⟩ := wgd h
  obtain ⟨v449, e448, h⟩ := wbd h
  refine Vw.cV1 (pc := 1882) (v := .inr (.inl v449)) (c' := c) (n' := n) K (s_X8_time K.tr e448) cal_X8_time cls6 u_2_209 g447 rfl ⟨by decide, by decide⟩ ⟨by omega, by omega⟩ rfl (Nat.le_of_ble_eq_true rfl) dL_law_1882 rfl rfl ?_
  refine Vw.aload_n (pc := 1885) (x := x2) K dL_law_1885 rfl ?_
  obtain ⟨g450, h⟩ := wgd h
  obtain ⟨p452, e451, h⟩ := wbd h
  refine Vw.cV1 (pc := 1886) (v := .inr (.inl p452.1)) (c' := c) (n' := n) K (s_X9_time K.tr e451) cal_X9_time cls7 u_8_75 g450 rfl ⟨by decide, by decide⟩ ⟨by omega, by omega⟩ rfl (Nat.le_of_ble_eq_true rfl) dL_law_1886 rfl rfl ?_
  refine Vw.lcmp_eq (pc := 1889) (tgt := 2228) K dL_law_1889 dL_law_1890 (by decide) (fun c453 => ?_) (fun c453 => ?_)
  · have h := wpos c453 h
    exact Vw.loc rfl (s_L_law_2228 K E hX (fu := fu) (by omega) (by omega) hr23 h)
  · have h := wneg c453 h
    refine Vw.iconst (pc := 1893) (v := (0 : Int32)) K (by decide) dL_law_1893 ?_
    exact Vw.lawret (pc := 1894) K E h (by omega) (by omega) dL_law_1894
def k_L_law_1895 (xs : Nat → Int32) (Ln : Nat) (rec23 : Hp → Int32 → Option Int32) (A : Hp) (x1 : Nat) (x2 : Nat) (x3 : Nat) (x4 : Int32)  : Option Int32 := if (hsh A x1).1 = 7 then ((f_X8_nextExpiry A x1).bind fun v456 => if (hsh A x2).1 = 8 then ((f_X9_nextExpiry A x2).bind fun p459 => (if v456 = p459.1 then k_L_law_2228 xs Ln rec23 p459.2 x1 x2 x3 x4 else some (0 : Int32))) else none) else none
set_option maxRecDepth 100000 in
theorem s_L_law_1895 {κ : KT} {xs : Nat → Int32} {Ln : Nat} {rec23 : Hp → Int32 → Option Int32} {A : Hp} {x1 : Nat} {x2 : Nat} {x3 : Nat} {x4 : Int32}  {c n fu : Nat} (K : Cx κ cL_law 8 RL 14 540 601024 7293034) (E : EdW κ) (hX : SX κ Ln xs) (hc9 : c + fu * 423 + 0 ≤ 217462) (hn9 : n + fu * 8600 + 0 ≤ 4447408) (hr23 : ∀ (c n : Nat) (A : Hp) (x4 : Int32), c + fu * 423 ≤ 217462 → n + fu * 8600 ≤ 4447408 → rec23 A x4 = some 1 → Vw κ A c n 23 [(0, .inr (.inr 92)), (1, .inr (.inr x1)), (2, .inr (.inr x2)), (3, .inr (.inr x3)), (4, .inl x4)] []) (h : k_L_law_1895 xs Ln rec23 A x1 x2 x3 x4  = some 1) : Vw κ A c n 1895 [(0, .inr (.inr 92)), (1, .inr (.inr x1)), (2, .inr (.inr x2)), (3, .inr (.inr x3)), (4, .inl x4)] [] := by
  unfold k_L_law_1895 at h
  refine Vw.aload_n (pc := 1895) (x := x1) K dL_law_1895 rfl ?_
  obtain ⟨g454, h⟩ := wgd h
  obtain ⟨v456, e455, h⟩ := wbd h
  refine Vw.cV1 (pc := 1896) (v := .inr (.inl v456)) (c' := c) (n' := n) K (s_X8_nextExpiry K.tr e455) cal_X8_nextExpiry cls6 u_2_213 g454 rfl ⟨by decide, by decide⟩ ⟨by omega, by omega⟩ rfl (Nat.le_of_ble_eq_true rfl) dL_law_1896 rfl rfl ?_
  refine Vw.aload_n (pc := 1899) (x := x2) K dL_law_1899 rfl ?_
  obtain ⟨g457, h⟩ := wgd h
  obtain ⟨p459, e458, h⟩ := wbd h
  refine Vw.cV1 (pc := 1900) (v := .inr (.inl p459.1)) (c' := c) (n' := n) K (s_X9_nextExpiry K.tr e458) cal_X9_nextExpiry cls7 u_8_79 g457 rfl ⟨by decide, by decide⟩ ⟨by omega, by omega⟩ rfl (Nat.le_of_ble_eq_true rfl) dL_law_1900 rfl rfl ?_
  refine Vw.lcmp_eq (pc := 1903) (tgt := 2228) K dL_law_1903 dL_law_1904 (by decide) (fun c460 => ?_) (fun c460 => ?_)
  · have h := wpos c460 h
    exact Vw.loc rfl (s_L_law_2228 K E hX (fu := fu) (by omega) (by omega) hr23 h)
  · have h := wneg c460 h
    refine Vw.iconst (pc := 1907) (v := (0 : Int32)) K (by decide) dL_law_1907 ?_
    exact Vw.lawret (pc := 1908) K E h (by omega) (by omega) dL_law_1908
def k_L_law_1909 (xs : Nat → Int32) (Ln : Nat) (rec23 : Hp → Int32 → Option Int32) (A : Hp) (x1 : Nat) (x2 : Nat) (x3 : Nat) (x4 : Int32)  : Option Int32 := if wix (x4 + (1 : Int32)) Ln then if wix (x4 + (2 : Int32)) Ln then ((f_L_setLimit A x1 (xs (x4 + (1 : Int32)).toNatClampNeg) (xs (x4 + (2 : Int32)).toNatClampNeg) x3).bind fun p464 => if wix (x4 + (1 : Int32)) Ln then if wix (x4 + (2 : Int32)) Ln then if (hsh p464.2 x2).1 = 8 then ((f_X9_setLimit p464.2 x2 (xs (x4 + (1 : Int32)).toNatClampNeg) (xs (x4 + (2 : Int32)).toNatClampNeg)).bind fun p469 => if (hsh p469.2 x2).1 = 8 then ((f_X9_thrown p469.2 x2).bind fun v472 => (if v472 = p464.1 then (if p464.1 = (0 : Int32) then if (hsh p469.2 x3).1 = 11 then if wix (0 : Int32) (hsh p469.2 x3).2 then (if (hgL p469.2 1035 x3 (0 : Int32).toNatClampNeg) = p469.1.toInt64 then k_L_law_2228 xs Ln rec23 p469.2 x1 x2 x3 x4 else some (0 : Int32)) else none else none else k_L_law_2228 xs Ln rec23 p469.2 x1 x2 x3 x4) else some (0 : Int32))) else none) else none else none else none) else none else none
set_option maxRecDepth 100000 in
theorem s_L_law_1909 {κ : KT} {xs : Nat → Int32} {Ln : Nat} {rec23 : Hp → Int32 → Option Int32} {A : Hp} {x1 : Nat} {x2 : Nat} {x3 : Nat} {x4 : Int32}  {c n fu : Nat} (K : Cx κ cL_law 8 RL 14 540 601024 7293034) (E : EdW κ) (hX : SX κ Ln xs) (hc9 : c + fu * 423 + 1 ≤ 217462) (hn9 : n + fu * 8600 + 6 ≤ 4447408) (hr23 : ∀ (c n : Nat) (A : Hp) (x4 : Int32), c + fu * 423 ≤ 217462 → n + fu * 8600 ≤ 4447408 → rec23 A x4 = some 1 → Vw κ A c n 23 [(0, .inr (.inr 92)), (1, .inr (.inr x1)), (2, .inr (.inr x2)), (3, .inr (.inr x3)), (4, .inl x4)] []) (h : k_L_law_1909 xs Ln rec23 A x1 x2 x3 x4  = some 1) : Vw κ A c n 1909 [(0, .inr (.inr 92)), (1, .inr (.inr x1)), (2, .inr (.inr x2)), (3, .inr (.inr x3)), (4, .inl x4)] [] := by
  unfold k_L_law_1909 at h
  refine Vw.aload_n (pc := 1909) (x := x1) K dL_law_1909 rfl ?_
  refine Vw.aload_n (pc := 1910) (x := 92) K dL_law_1910 rfl ?_
  refine Vw.iload (pc := 1911) (x := x4) K dL_law_1911 rfl ?_
  refine Vw.iconst (pc := 1913) (v := (1 : Int32)) K (by decide) dL_law_1913 ?_
  refine Vw.iadd (pc := 1914) K dL_law_1914 ?_
  obtain ⟨g461, h⟩ := wgd h
  refine Vw.sld (pc := 1915) K hX g461 dL_law_1915 ?_
  refine Vw.aload_n (pc := 1916) (x := 92) K dL_law_1916 rfl ?_
  refine Vw.iload (pc := 1917) (x := x4) K dL_law_1917 rfl ?_
  refine Vw.iconst (pc := 1919) (v := (2 : Int32)) K (by decide) dL_law_1919 ?_
  refine Vw.iadd (pc := 1920) K dL_law_1920 ?_
  obtain ⟨g462, h⟩ := wgd h
  refine Vw.sld (pc := 1921) K hX g462 dL_law_1921 ?_
  refine Vw.aload_n (pc := 1922) (x := x3) K dL_law_1922 rfl ?_
  obtain ⟨p464, e463, h⟩ := wbd h
  refine Vw.cH1 (pc := 1923) (v := .inl p464.1) (c' := c + 1) (n' := n + 6) K (s_L_setLimit K.tr e463) cal_L_setLimit u_5_191 rfl ⟨by decide, by decide⟩ ⟨by omega, by omega⟩ rfl (Nat.le_of_ble_eq_true rfl) dL_law_1923 rfl rfl ?_
  refine Vw.istore (pc := 1926) K dL_law_1926 (by decide) ?_
  refine Vw.aload_n (pc := 1928) (x := x2) K dL_law_1928 rfl ?_
  refine Vw.aload_n (pc := 1929) (x := 92) K dL_law_1929 rfl ?_
  refine Vw.iload (pc := 1930) (x := x4) K dL_law_1930 rfl ?_
  refine Vw.iconst (pc := 1932) (v := (1 : Int32)) K (by decide) dL_law_1932 ?_
  refine Vw.iadd (pc := 1933) K dL_law_1933 ?_
  obtain ⟨g465, h⟩ := wgd h
  refine Vw.sld (pc := 1934) K hX g465 dL_law_1934 ?_
  refine Vw.aload_n (pc := 1935) (x := 92) K dL_law_1935 rfl ?_
  refine Vw.iload (pc := 1936) (x := x4) K dL_law_1936 rfl ?_
  refine Vw.iconst (pc := 1938) (v := (2 : Int32)) K (by decide) dL_law_1938 ?_
  refine Vw.iadd (pc := 1939) K dL_law_1939 ?_
  obtain ⟨g466, h⟩ := wgd h
  refine Vw.sld (pc := 1940) K hX g466 dL_law_1940 ?_
  obtain ⟨g467, h⟩ := wgd h
  obtain ⟨p469, e468, h⟩ := wbd h
  refine Vw.cV1 (pc := 1941) (v := .inl p469.1) (c' := c + 1) (n' := n + 6) K (s_X9_setLimit K.tr e468) cal_X9_setLimit cls7 u_8_83 g467 rfl ⟨by decide, by decide⟩ ⟨by omega, by omega⟩ rfl (Nat.le_of_ble_eq_true rfl) dL_law_1941 rfl rfl ?_
  refine Vw.istore (pc := 1944) K dL_law_1944 (by decide) ?_
  refine Vw.aload_n (pc := 1946) (x := x2) K dL_law_1946 rfl ?_
  obtain ⟨g470, h⟩ := wgd h
  obtain ⟨v472, e471, h⟩ := wbd h
  refine Vw.cV1 (pc := 1947) (v := .inl v472) (c' := c + 1) (n' := n + 6) K (s_X9_thrown K.tr e471) cal_X9_thrown cls7 u_6_134 g470 rfl ⟨by decide, by decide⟩ ⟨by omega, by omega⟩ rfl (Nat.le_of_ble_eq_true rfl) dL_law_1947 rfl rfl ?_
  refine Vw.iload (pc := 1950) (x := p464.1) K dL_law_1950 rfl ?_
  refine Vw.icmp_eq (pc := 1952) (tgt := 1957) K dL_law_1952 (by decide) (fun c473 => ?_) (fun c473 => ?_)
  · have h := wpos c473 h
    refine Vw.iload (pc := 1957) (x := p464.1) K dL_law_1957 rfl ?_
    refine Vw.if_ne (pc := 1959) (tgt := 1974) K dL_law_1959 (by decide) (fun c474 => ?_) (fun c474 => ?_)
    · have h := wneg c474 h
      refine Vw.goto (pc := 1974) (tgt := 2228) K dL_law_1974 (by decide) ?_
      exact Vw.loc rfl (s_L_law_2228 K E hX (fu := fu) (by omega) (by omega) hr23 h)
    · have h := wpos c474 h
      refine Vw.aload_n (pc := 1962) (x := x3) K dL_law_1962 rfl ?_
      refine Vw.iconst (pc := 1963) (v := (0 : Int32)) K (by decide) dL_law_1963 ?_
      obtain ⟨g475, h⟩ := wgd h
      obtain ⟨g476, h⟩ := wgd h
      refine Vw.laload (pc := 1964) K g475 g476 dL_law_1964 ?_
      refine Vw.iload (pc := 1965) (x := p469.1) K dL_law_1965 rfl ?_
      refine Vw.i2l (pc := 1967) K dL_law_1967 ?_
      refine Vw.lcmp_eq (pc := 1968) (tgt := 1974) K dL_law_1968 dL_law_1969 (by decide) (fun c477 => ?_) (fun c477 => ?_)
      · have h := wpos c477 h
        refine Vw.goto (pc := 1974) (tgt := 2228) K dL_law_1974 (by decide) ?_
        exact Vw.loc rfl (s_L_law_2228 K E hX (fu := fu) (by omega) (by omega) hr23 h)
      · have h := wneg c477 h
        refine Vw.iconst (pc := 1972) (v := (0 : Int32)) K (by decide) dL_law_1972 ?_
        exact Vw.lawret (pc := 1973) K E h (by omega) (by omega) dL_law_1973
  · have h := wneg c473 h
    refine Vw.iconst (pc := 1955) (v := (0 : Int32)) K (by decide) dL_law_1955 ?_
    exact Vw.lawret (pc := 1956) K E h (by omega) (by omega) dL_law_1956
def k_L_law_1977 (xs : Nat → Int32) (Ln : Nat) (rec23 : Hp → Int32 → Option Int32) (A : Hp) (x1 : Nat) (x2 : Nat) (x3 : Nat) (x4 : Int32)  : Option Int32 := if wix (x4 + (1 : Int32)) Ln then ((f_L_setPolicy A x1 (xs (x4 + (1 : Int32)).toNatClampNeg) x3).bind fun p480 => if wix (x4 + (1 : Int32)) Ln then if (hsh p480.2 x2).1 = 8 then ((f_X9_setPolicy p480.2 x2 (xs (x4 + (1 : Int32)).toNatClampNeg)).bind fun p484 => if (hsh p484.2 x2).1 = 8 then ((f_X9_thrown p484.2 x2).bind fun v487 => (if v487 = p480.1 then (if p480.1 = (0 : Int32) then if (hsh p484.2 x3).1 = 11 then if wix (0 : Int32) (hsh p484.2 x3).2 then (if (hgL p484.2 1035 x3 (0 : Int32).toNatClampNeg) = p484.1.toInt64 then k_L_law_2228 xs Ln rec23 p484.2 x1 x2 x3 x4 else some (0 : Int32)) else none else none else k_L_law_2228 xs Ln rec23 p484.2 x1 x2 x3 x4) else some (0 : Int32))) else none) else none else none) else none
set_option maxRecDepth 100000 in
theorem s_L_law_1977 {κ : KT} {xs : Nat → Int32} {Ln : Nat} {rec23 : Hp → Int32 → Option Int32} {A : Hp} {x1 : Nat} {x2 : Nat} {x3 : Nat} {x4 : Int32}  {c n fu : Nat} (K : Cx κ cL_law 8 RL 14 540 601024 7293034) (E : EdW κ) (hX : SX κ Ln xs) (hc9 : c + fu * 423 + 1 ≤ 217462) (hn9 : n + fu * 8600 + 6 ≤ 4447408) (hr23 : ∀ (c n : Nat) (A : Hp) (x4 : Int32), c + fu * 423 ≤ 217462 → n + fu * 8600 ≤ 4447408 → rec23 A x4 = some 1 → Vw κ A c n 23 [(0, .inr (.inr 92)), (1, .inr (.inr x1)), (2, .inr (.inr x2)), (3, .inr (.inr x3)), (4, .inl x4)] []) (h : k_L_law_1977 xs Ln rec23 A x1 x2 x3 x4  = some 1) : Vw κ A c n 1977 [(0, .inr (.inr 92)), (1, .inr (.inr x1)), (2, .inr (.inr x2)), (3, .inr (.inr x3)), (4, .inl x4)] [] := by
  unfold k_L_law_1977 at h
  refine Vw.aload_n (pc := 1977) (x := x1) K dL_law_1977 rfl ?_
  refine Vw.aload_n (pc := 1978) (x := 92) K dL_law_1978 rfl ?_
  refine Vw.iload (pc := 1979) (x := x4) K dL_law_1979 rfl ?_
  refine Vw.iconst (pc := 1981) (v := (1 : Int32)) K (by decide) dL_law_1981 ?_
  refine Vw.iadd (pc := 1982) K dL_law_1982 ?_
  obtain ⟨g478, h⟩ := wgd h
  refine Vw.sld (pc := 1983) K hX g478 dL_law_1983 ?_
  refine Vw.aload_n (pc := 1984) (x := x3) K dL_law_1984 rfl ?_
  obtain ⟨p480, e479, h⟩ := wbd h
  refine Vw.cH1 (pc := 1985) (v := .inl p480.1) (c' := c + 1) (n' := n + 6) K (s_L_setPolicy K.tr e479) cal_L_setPolicy u_5_200 rfl ⟨by decide, by decide⟩ ⟨by omega, by omega⟩ rfl (Nat.le_of_ble_eq_true rfl) dL_law_1985 rfl rfl ?_
  refine Vw.istore (pc := 1988) K dL_law_1988 (by decide) ?_
  refine Vw.aload_n (pc := 1990) (x := x2) K dL_law_1990 rfl ?_
  refine Vw.aload_n (pc := 1991) (x := 92) K dL_law_1991 rfl ?_
  refine Vw.iload (pc := 1992) (x := x4) K dL_law_1992 rfl ?_
  refine Vw.iconst (pc := 1994) (v := (1 : Int32)) K (by decide) dL_law_1994 ?_
  refine Vw.iadd (pc := 1995) K dL_law_1995 ?_
  obtain ⟨g481, h⟩ := wgd h
  refine Vw.sld (pc := 1996) K hX g481 dL_law_1996 ?_
  obtain ⟨g482, h⟩ := wgd h
  obtain ⟨p484, e483, h⟩ := wbd h
  refine Vw.cV1 (pc := 1997) (v := .inl p484.1) (c' := c + 1) (n' := n + 6) K (s_X9_setPolicy K.tr e483) cal_X9_setPolicy cls7 u_8_87 g482 rfl ⟨by decide, by decide⟩ ⟨by omega, by omega⟩ rfl (Nat.le_of_ble_eq_true rfl) dL_law_1997 rfl rfl ?_
  refine Vw.istore (pc := 2000) K dL_law_2000 (by decide) ?_
  refine Vw.aload_n (pc := 2002) (x := x2) K dL_law_2002 rfl ?_
  obtain ⟨g485, h⟩ := wgd h
  obtain ⟨v487, e486, h⟩ := wbd h
  refine Vw.cV1 (pc := 2003) (v := .inl v487) (c' := c + 1) (n' := n + 6) K (s_X9_thrown K.tr e486) cal_X9_thrown cls7 u_6_134 g485 rfl ⟨by decide, by decide⟩ ⟨by omega, by omega⟩ rfl (Nat.le_of_ble_eq_true rfl) dL_law_2003 rfl rfl ?_
  refine Vw.iload (pc := 2006) (x := p480.1) K dL_law_2006 rfl ?_
  refine Vw.icmp_eq (pc := 2008) (tgt := 2013) K dL_law_2008 (by decide) (fun c488 => ?_) (fun c488 => ?_)
  · have h := wpos c488 h
    refine Vw.iload (pc := 2013) (x := p480.1) K dL_law_2013 rfl ?_
    refine Vw.if_ne (pc := 2015) (tgt := 2030) K dL_law_2015 (by decide) (fun c489 => ?_) (fun c489 => ?_)
    · have h := wneg c489 h
      refine Vw.goto (pc := 2030) (tgt := 2228) K dL_law_2030 (by decide) ?_
      exact Vw.loc rfl (s_L_law_2228 K E hX (fu := fu) (by omega) (by omega) hr23 h)
    · have h := wpos c489 h
      refine Vw.aload_n (pc := 2018) (x := x3) K dL_law_2018 rfl ?_
      refine Vw.iconst (pc := 2019) (v := (0 : Int32)) K (by decide) dL_law_2019 ?_
      obtain ⟨g490, h⟩ := wgd h
      obtain ⟨g491, h⟩ := wgd h
      refine Vw.laload (pc := 2020) K g490 g491 dL_law_2020 ?_
      refine Vw.iload (pc := 2021) (x := p484.1) K dL_law_2021 rfl ?_
      refine Vw.i2l (pc := 2023) K dL_law_2023 ?_
      refine Vw.lcmp_eq (pc := 2024) (tgt := 2030) K dL_law_2024 dL_law_2025 (by decide) (fun c492 => ?_) (fun c492 => ?_)
      · have h := wpos c492 h
        refine Vw.goto (pc := 2030) (tgt := 2228) K dL_law_2030 (by decide) ?_
        exact Vw.loc rfl (s_L_law_2228 K E hX (fu := fu) (by omega) (by omega) hr23 h)
      · have h := wneg c492 h
        refine Vw.iconst (pc := 2028) (v := (0 : Int32)) K (by decide) dL_law_2028 ?_
        exact Vw.lawret (pc := 2029) K E h (by omega) (by omega) dL_law_2029
  · have h := wneg c488 h
    refine Vw.iconst (pc := 2011) (v := (0 : Int32)) K (by decide) dL_law_2011 ?_
    exact Vw.lawret (pc := 2012) K E h (by omega) (by omega) dL_law_2012
def k_L_law_2033 (xs : Nat → Int32) (Ln : Nat) (rec23 : Hp → Int32 → Option Int32) (A : Hp) (x1 : Nat) (x2 : Nat) (x3 : Nat) (x4 : Int32)  : Option Int32 := if (hsh A x1).1 = 7 then ((f_X8_victim A x1).bind fun v495 => if (hsh A x2).1 = 8 then ((f_X9_victim A x2).bind fun p498 => (if v495 = p498.1 then k_L_law_2228 xs Ln rec23 p498.2 x1 x2 x3 x4 else some (0 : Int32))) else none) else none
set_option maxRecDepth 100000 in
theorem s_L_law_2033 {κ : KT} {xs : Nat → Int32} {Ln : Nat} {rec23 : Hp → Int32 → Option Int32} {A : Hp} {x1 : Nat} {x2 : Nat} {x3 : Nat} {x4 : Int32}  {c n fu : Nat} (K : Cx κ cL_law 8 RL 14 540 601024 7293034) (E : EdW κ) (hX : SX κ Ln xs) (hc9 : c + fu * 423 + 0 ≤ 217462) (hn9 : n + fu * 8600 + 0 ≤ 4447408) (hr23 : ∀ (c n : Nat) (A : Hp) (x4 : Int32), c + fu * 423 ≤ 217462 → n + fu * 8600 ≤ 4447408 → rec23 A x4 = some 1 → Vw κ A c n 23 [(0, .inr (.inr 92)), (1, .inr (.inr x1)), (2, .inr (.inr x2)), (3, .inr (.inr x3)), (4, .inl x4)] []) (h : k_L_law_2033 xs Ln rec23 A x1 x2 x3 x4  = some 1) : Vw κ A c n 2033 [(0, .inr (.inr 92)), (1, .inr (.inr x1)), (2, .inr (.inr x2)), (3, .inr (.inr x3)), (4, .inl x4)] [] := by
  unfold k_L_law_2033 at h
  refine Vw.aload_n (pc := 2033) (x := x1) K dL_law_2033 rfl ?_
  obtain ⟨g493, h⟩ := wgd h
  obtain ⟨v495, e494, h⟩ := wbd h
  refine Vw.cV1 (pc := 2034) (v := .inl v495) (c' := c) (n' := n) K (s_X8_victim K.tr e494) cal_X8_victim cls6 u_2_221 g493 rfl ⟨by decide, by decide⟩ ⟨by omega, by omega⟩ rfl (Nat.le_of_ble_eq_true rfl) dL_law_2034 rfl rfl ?_
  refine Vw.aload_n (pc := 2037) (x := x2) K dL_law_2037 rfl ?_
  obtain ⟨g496, h⟩ := wgd h
  obtain ⟨p498, e497, h⟩ := wbd h
  refine Vw.cV1 (pc := 2038) (v := .inl p498.1) (c' := c) (n' := n) K (s_X9_victim K.tr e497) cal_X9_victim cls7 u_8_92 g496 rfl ⟨by decide, by decide⟩ ⟨by omega, by omega⟩ rfl (Nat.le_of_ble_eq_true rfl) dL_law_2038 rfl rfl ?_
  refine Vw.icmp_eq (pc := 2041) (tgt := 2228) K dL_law_2041 (by decide) (fun c499 => ?_) (fun c499 => ?_)
  · have h := wpos c499 h
    exact Vw.loc rfl (s_L_law_2228 K E hX (fu := fu) (by omega) (by omega) hr23 h)
  · have h := wneg c499 h
    refine Vw.iconst (pc := 2044) (v := (0 : Int32)) K (by decide) dL_law_2044 ?_
    exact Vw.lawret (pc := 2045) K E h (by omega) (by omega) dL_law_2045
def k_L_law_2046 (xs : Nat → Int32) (Ln : Nat) (rec23 : Hp → Int32 → Option Int32) (A : Hp) (x1 : Nat) (x2 : Nat) (x3 : Nat) (x4 : Int32)  : Option Int32 := if wix (x4 + (1 : Int32)) Ln then ((f_L_count A x1 (xs (x4 + (1 : Int32)).toNatClampNeg) x3).bind fun p502 => if wix (x4 + (1 : Int32)) Ln then if (hsh p502.2 x2).1 = 8 then ((f_X9_count p502.2 x2 (xs (x4 + (1 : Int32)).toNatClampNeg)).bind fun p506 => if (hsh p506.2 x2).1 = 8 then ((f_X9_thrown p506.2 x2).bind fun v509 => (if v509 = p502.1 then (if p502.1 = (0 : Int32) then if (hsh p506.2 x3).1 = 11 then if wix (0 : Int32) (hsh p506.2 x3).2 then (if (hgL p506.2 1035 x3 (0 : Int32).toNatClampNeg) = p506.1.toInt64 then k_L_law_2228 xs Ln rec23 p506.2 x1 x2 x3 x4 else some (0 : Int32)) else none else none else k_L_law_2228 xs Ln rec23 p506.2 x1 x2 x3 x4) else some (0 : Int32))) else none) else none else none) else none
set_option maxRecDepth 100000 in
theorem s_L_law_2046 {κ : KT} {xs : Nat → Int32} {Ln : Nat} {rec23 : Hp → Int32 → Option Int32} {A : Hp} {x1 : Nat} {x2 : Nat} {x3 : Nat} {x4 : Int32}  {c n fu : Nat} (K : Cx κ cL_law 8 RL 14 540 601024 7293034) (E : EdW κ) (hX : SX κ Ln xs) (hc9 : c + fu * 423 + 1 ≤ 217462) (hn9 : n + fu * 8600 + 6 ≤ 4447408) (hr23 : ∀ (c n : Nat) (A : Hp) (x4 : Int32), c + fu * 423 ≤ 217462 → n + fu * 8600 ≤ 4447408 → rec23 A x4 = some 1 → Vw κ A c n 23 [(0, .inr (.inr 92)), (1, .inr (.inr x1)), (2, .inr (.inr x2)), (3, .inr (.inr x3)), (4, .inl x4)] []) (h : k_L_law_2046 xs Ln rec23 A x1 x2 x3 x4  = some 1) : Vw κ A c n 2046 [(0, .inr (.inr 92)), (1, .inr (.inr x1)), (2, .inr (.inr x2)), (3, .inr (.inr x3)), (4, .inl x4)] [] := by
  unfold k_L_law_2046 at h
  refine Vw.aload_n (pc := 2046) (x := x1) K dL_law_2046 rfl ?_
  refine Vw.aload_n (pc := 2047) (x := 92) K dL_law_2047 rfl ?_
  refine Vw.iload (pc := 2048) (x := x4) K dL_law_2048 rfl ?_
  refine Vw.iconst (pc := 2050) (v := (1 : Int32)) K (by decide) dL_law_2050 ?_
  refine Vw.iadd (pc := 2051) K dL_law_2051 ?_
  obtain ⟨g500, h⟩ := wgd h
  refine Vw.sld (pc := 2052) K hX g500 dL_law_2052 ?_
  refine Vw.aload_n (pc := 2053) (x := x3) K dL_law_2053 rfl ?_
  obtain ⟨p502, e501, h⟩ := wbd h
  refine Vw.cH1 (pc := 2054) (v := .inl p502.1) (c' := c + 1) (n' := n + 6) K (s_L_count K.tr e501) cal_L_count u_5_208 rfl ⟨by decide, by decide⟩ ⟨by omega, by omega⟩ rfl (Nat.le_of_ble_eq_true rfl) dL_law_2054 rfl rfl ?_
  refine Vw.istore (pc := 2057) K dL_law_2057 (by decide) ?_
  refine Vw.aload_n (pc := 2059) (x := x2) K dL_law_2059 rfl ?_
  refine Vw.aload_n (pc := 2060) (x := 92) K dL_law_2060 rfl ?_
  refine Vw.iload (pc := 2061) (x := x4) K dL_law_2061 rfl ?_
  refine Vw.iconst (pc := 2063) (v := (1 : Int32)) K (by decide) dL_law_2063 ?_
  refine Vw.iadd (pc := 2064) K dL_law_2064 ?_
  obtain ⟨g503, h⟩ := wgd h
  refine Vw.sld (pc := 2065) K hX g503 dL_law_2065 ?_
  obtain ⟨g504, h⟩ := wgd h
  obtain ⟨p506, e505, h⟩ := wbd h
  refine Vw.cV1 (pc := 2066) (v := .inl p506.1) (c' := c + 1) (n' := n + 6) K (s_X9_count K.tr e505) cal_X9_count cls7 u_8_96 g504 rfl ⟨by decide, by decide⟩ ⟨by omega, by omega⟩ rfl (Nat.le_of_ble_eq_true rfl) dL_law_2066 rfl rfl ?_
  refine Vw.istore (pc := 2069) K dL_law_2069 (by decide) ?_
  refine Vw.aload_n (pc := 2071) (x := x2) K dL_law_2071 rfl ?_
  obtain ⟨g507, h⟩ := wgd h
  obtain ⟨v509, e508, h⟩ := wbd h
  refine Vw.cV1 (pc := 2072) (v := .inl v509) (c' := c + 1) (n' := n + 6) K (s_X9_thrown K.tr e508) cal_X9_thrown cls7 u_6_134 g507 rfl ⟨by decide, by decide⟩ ⟨by omega, by omega⟩ rfl (Nat.le_of_ble_eq_true rfl) dL_law_2072 rfl rfl ?_
  refine Vw.iload (pc := 2075) (x := p502.1) K dL_law_2075 rfl ?_
  refine Vw.icmp_eq (pc := 2077) (tgt := 2082) K dL_law_2077 (by decide) (fun c510 => ?_) (fun c510 => ?_)
  · have h := wpos c510 h
    refine Vw.iload (pc := 2082) (x := p502.1) K dL_law_2082 rfl ?_
    refine Vw.if_ne (pc := 2084) (tgt := 2099) K dL_law_2084 (by decide) (fun c511 => ?_) (fun c511 => ?_)
    · have h := wneg c511 h
      refine Vw.goto (pc := 2099) (tgt := 2228) K dL_law_2099 (by decide) ?_
      exact Vw.loc rfl (s_L_law_2228 K E hX (fu := fu) (by omega) (by omega) hr23 h)
    · have h := wpos c511 h
      refine Vw.aload_n (pc := 2087) (x := x3) K dL_law_2087 rfl ?_
      refine Vw.iconst (pc := 2088) (v := (0 : Int32)) K (by decide) dL_law_2088 ?_
      obtain ⟨g512, h⟩ := wgd h
      obtain ⟨g513, h⟩ := wgd h
      refine Vw.laload (pc := 2089) K g512 g513 dL_law_2089 ?_
      refine Vw.iload (pc := 2090) (x := p506.1) K dL_law_2090 rfl ?_
      refine Vw.i2l (pc := 2092) K dL_law_2092 ?_
      refine Vw.lcmp_eq (pc := 2093) (tgt := 2099) K dL_law_2093 dL_law_2094 (by decide) (fun c514 => ?_) (fun c514 => ?_)
      · have h := wpos c514 h
        refine Vw.goto (pc := 2099) (tgt := 2228) K dL_law_2099 (by decide) ?_
        exact Vw.loc rfl (s_L_law_2228 K E hX (fu := fu) (by omega) (by omega) hr23 h)
      · have h := wneg c514 h
        refine Vw.iconst (pc := 2097) (v := (0 : Int32)) K (by decide) dL_law_2097 ?_
        exact Vw.lawret (pc := 2098) K E h (by omega) (by omega) dL_law_2098
  · have h := wneg c510 h
    refine Vw.iconst (pc := 2080) (v := (0 : Int32)) K (by decide) dL_law_2080 ?_
    exact Vw.lawret (pc := 2081) K E h (by omega) (by omega) dL_law_2081
def k_L_law_2102 (xs : Nat → Int32) (Ln : Nat) (rec23 : Hp → Int32 → Option Int32) (A : Hp) (x1 : Nat) (x2 : Nat) (x3 : Nat) (x4 : Int32)  : Option Int32 := if wix (x4 + (1 : Int32)) Ln then ((f_L_save A x1 (xs (x4 + (1 : Int32)).toNatClampNeg) x3).bind fun p517 => if wix (x4 + (1 : Int32)) Ln then if (hsh p517.2 x2).1 = 8 then ((f_X9_save p517.2 x2 (xs (x4 + (1 : Int32)).toNatClampNeg)).bind fun p521 => if (hsh p521.2 x2).1 = 8 then ((f_X9_thrown p521.2 x2).bind fun v524 => (if v524 = p517.1 then (if p517.1 = (0 : Int32) then if (hsh p521.2 x3).1 = 11 then if wix (0 : Int32) (hsh p521.2 x3).2 then (if (hgL p521.2 1035 x3 (0 : Int32).toNatClampNeg) = p521.1.toInt64 then k_L_law_2228 xs Ln rec23 p521.2 x1 x2 x3 x4 else some (0 : Int32)) else none else none else k_L_law_2228 xs Ln rec23 p521.2 x1 x2 x3 x4) else some (0 : Int32))) else none) else none else none) else none
set_option maxRecDepth 100000 in
theorem s_L_law_2102 {κ : KT} {xs : Nat → Int32} {Ln : Nat} {rec23 : Hp → Int32 → Option Int32} {A : Hp} {x1 : Nat} {x2 : Nat} {x3 : Nat} {x4 : Int32}  {c n fu : Nat} (K : Cx κ cL_law 8 RL 14 540 601024 7293034) (E : EdW κ) (hX : SX κ Ln xs) (hc9 : c + fu * 423 + 423 ≤ 217462) (hn9 : n + fu * 8600 + 8600 ≤ 4447408) (hr23 : ∀ (c n : Nat) (A : Hp) (x4 : Int32), c + fu * 423 ≤ 217462 → n + fu * 8600 ≤ 4447408 → rec23 A x4 = some 1 → Vw κ A c n 23 [(0, .inr (.inr 92)), (1, .inr (.inr x1)), (2, .inr (.inr x2)), (3, .inr (.inr x3)), (4, .inl x4)] []) (h : k_L_law_2102 xs Ln rec23 A x1 x2 x3 x4  = some 1) : Vw κ A c n 2102 [(0, .inr (.inr 92)), (1, .inr (.inr x1)), (2, .inr (.inr x2)), (3, .inr (.inr x3)), (4, .inl x4)] [] := by
  unfold k_L_law_2102 at h
  refine Vw.aload_n (pc := 2102) (x := x1) K dL_law_2102 rfl ?_
  refine Vw.aload_n (pc := 2103) (x := 92) K dL_law_2103 rfl ?_
  refine Vw.iload (pc := 2104) (x := x4) K dL_law_2104 rfl ?_
  refine Vw.iconst (pc := 2106) (v := (1 : Int32)) K (by decide) dL_law_2106 ?_
  refine Vw.iadd (pc := 2107) K dL_law_2107 ?_
  obtain ⟨g515, h⟩ := wgd h
  refine Vw.sld (pc := 2108) K hX g515 dL_law_2108 ?_
  refine Vw.aload_n (pc := 2109) (x := x3) K dL_law_2109 rfl ?_
  obtain ⟨p517, e516, h⟩ := wbd h
  refine Vw.cH1 (pc := 2110) (v := .inl p517.1) (c' := c + 423) (n' := n + 8600) K (s_L_save K.tr e516) cal_L_save u_5_216 rfl ⟨by decide, by decide⟩ ⟨by omega, by omega⟩ rfl (Nat.le_of_ble_eq_true rfl) dL_law_2110 rfl rfl ?_
  refine Vw.istore (pc := 2113) K dL_law_2113 (by decide) ?_
  refine Vw.aload_n (pc := 2115) (x := x2) K dL_law_2115 rfl ?_
  refine Vw.aload_n (pc := 2116) (x := 92) K dL_law_2116 rfl ?_
  refine Vw.iload (pc := 2117) (x := x4) K dL_law_2117 rfl ?_
  refine Vw.iconst (pc := 2119) (v := (1 : Int32)) K (by decide) dL_law_2119 ?_
  refine Vw.iadd (pc := 2120) K dL_law_2120 ?_
  obtain ⟨g518, h⟩ := wgd h
  refine Vw.sld (pc := 2121) K hX g518 dL_law_2121 ?_
  obtain ⟨g519, h⟩ := wgd h
  obtain ⟨p521, e520, h⟩ := wbd h
  refine Vw.cV1 (pc := 2122) (v := .inl p521.1) (c' := c + 423) (n' := n + 8600) K (s_X9_save K.tr e520) cal_X9_save cls7 u_8_100 g519 rfl ⟨by decide, by decide⟩ ⟨by omega, by omega⟩ rfl (Nat.le_of_ble_eq_true rfl) dL_law_2122 rfl rfl ?_
  refine Vw.istore (pc := 2125) K dL_law_2125 (by decide) ?_
  refine Vw.aload_n (pc := 2127) (x := x2) K dL_law_2127 rfl ?_
  obtain ⟨g522, h⟩ := wgd h
  obtain ⟨v524, e523, h⟩ := wbd h
  refine Vw.cV1 (pc := 2128) (v := .inl v524) (c' := c + 423) (n' := n + 8600) K (s_X9_thrown K.tr e523) cal_X9_thrown cls7 u_6_134 g522 rfl ⟨by decide, by decide⟩ ⟨by omega, by omega⟩ rfl (Nat.le_of_ble_eq_true rfl) dL_law_2128 rfl rfl ?_
  refine Vw.iload (pc := 2131) (x := p517.1) K dL_law_2131 rfl ?_
  refine Vw.icmp_eq (pc := 2133) (tgt := 2138) K dL_law_2133 (by decide) (fun c525 => ?_) (fun c525 => ?_)
  · have h := wpos c525 h
    refine Vw.iload (pc := 2138) (x := p517.1) K dL_law_2138 rfl ?_
    refine Vw.if_ne (pc := 2140) (tgt := 2155) K dL_law_2140 (by decide) (fun c526 => ?_) (fun c526 => ?_)
    · have h := wneg c526 h
      refine Vw.goto (pc := 2155) (tgt := 2228) K dL_law_2155 (by decide) ?_
      exact Vw.loc rfl (s_L_law_2228 K E hX (fu := fu) (by omega) (by omega) hr23 h)
    · have h := wpos c526 h
      refine Vw.aload_n (pc := 2143) (x := x3) K dL_law_2143 rfl ?_
      refine Vw.iconst (pc := 2144) (v := (0 : Int32)) K (by decide) dL_law_2144 ?_
      obtain ⟨g527, h⟩ := wgd h
      obtain ⟨g528, h⟩ := wgd h
      refine Vw.laload (pc := 2145) K g527 g528 dL_law_2145 ?_
      refine Vw.iload (pc := 2146) (x := p521.1) K dL_law_2146 rfl ?_
      refine Vw.i2l (pc := 2148) K dL_law_2148 ?_
      refine Vw.lcmp_eq (pc := 2149) (tgt := 2155) K dL_law_2149 dL_law_2150 (by decide) (fun c529 => ?_) (fun c529 => ?_)
      · have h := wpos c529 h
        refine Vw.goto (pc := 2155) (tgt := 2228) K dL_law_2155 (by decide) ?_
        exact Vw.loc rfl (s_L_law_2228 K E hX (fu := fu) (by omega) (by omega) hr23 h)
      · have h := wneg c529 h
        refine Vw.iconst (pc := 2153) (v := (0 : Int32)) K (by decide) dL_law_2153 ?_
        exact Vw.lawret (pc := 2154) K E h (by omega) (by omega) dL_law_2154
  · have h := wneg c525 h
    refine Vw.iconst (pc := 2136) (v := (0 : Int32)) K (by decide) dL_law_2136 ?_
    exact Vw.lawret (pc := 2137) K E h (by omega) (by omega) dL_law_2137
def k_L_law_2158 (xs : Nat → Int32) (Ln : Nat) (rec23 : Hp → Int32 → Option Int32) (A : Hp) (x1 : Nat) (x2 : Nat) (x3 : Nat) (x4 : Int32)  : Option Int32 := if wix (x4 + (1 : Int32)) Ln then ((f_L_restore A x1 (xs (x4 + (1 : Int32)).toNatClampNeg) x3).bind fun p532 => if wix (x4 + (1 : Int32)) Ln then if (hsh p532.2 x2).1 = 8 then ((f_X9_restore p532.2 x2 (xs (x4 + (1 : Int32)).toNatClampNeg)).bind fun p536 => if (hsh p536.2 x2).1 = 8 then ((f_X9_thrown p536.2 x2).bind fun v539 => (if v539 = p532.1 then (if p532.1 = (0 : Int32) then if (hsh p536.2 x3).1 = 11 then if wix (0 : Int32) (hsh p536.2 x3).2 then (if (hgL p536.2 1035 x3 (0 : Int32).toNatClampNeg) = p536.1.toInt64 then k_L_law_2228 xs Ln rec23 p536.2 x1 x2 x3 x4 else some (0 : Int32)) else none else none else k_L_law_2228 xs Ln rec23 p536.2 x1 x2 x3 x4) else some (0 : Int32))) else none) else none else none) else none
set_option maxRecDepth 100000 in
theorem s_L_law_2158 {κ : KT} {xs : Nat → Int32} {Ln : Nat} {rec23 : Hp → Int32 → Option Int32} {A : Hp} {x1 : Nat} {x2 : Nat} {x3 : Nat} {x4 : Int32}  {c n fu : Nat} (K : Cx κ cL_law 8 RL 14 540 601024 7293034) (E : EdW κ) (hX : SX κ Ln xs) (hc9 : c + fu * 423 + 2 ≤ 217462) (hn9 : n + fu * 8600 + 12 ≤ 4447408) (hr23 : ∀ (c n : Nat) (A : Hp) (x4 : Int32), c + fu * 423 ≤ 217462 → n + fu * 8600 ≤ 4447408 → rec23 A x4 = some 1 → Vw κ A c n 23 [(0, .inr (.inr 92)), (1, .inr (.inr x1)), (2, .inr (.inr x2)), (3, .inr (.inr x3)), (4, .inl x4)] []) (h : k_L_law_2158 xs Ln rec23 A x1 x2 x3 x4  = some 1) : Vw κ A c n 2158 [(0, .inr (.inr 92)), (1, .inr (.inr x1)), (2, .inr (.inr x2)), (3, .inr (.inr x3)), (4, .inl x4)] [] := by
  unfold k_L_law_2158 at h
  refine Vw.aload_n (pc := 2158) (x := x1) K dL_law_2158 rfl ?_
  refine Vw.aload_n (pc := 2159) (x := 92) K dL_law_2159 rfl ?_
  refine Vw.iload (pc := 2160) (x := x4) K dL_law_2160 rfl ?_
  refine Vw.iconst (pc := 2162) (v := (1 : Int32)) K (by decide) dL_law_2162 ?_
  refine Vw.iadd (pc := 2163) K dL_law_2163 ?_
  obtain ⟨g530, h⟩ := wgd h
  refine Vw.sld (pc := 2164) K hX g530 dL_law_2164 ?_
  refine Vw.aload_n (pc := 2165) (x := x3) K dL_law_2165 rfl ?_
  obtain ⟨p532, e531, h⟩ := wbd h
  refine Vw.cH1 (pc := 2166) (v := .inl p532.1) (c' := c + 2) (n' := n + 12) K (s_L_restore K.tr e531) cal_L_restore u_6_1 rfl ⟨by decide, by decide⟩ ⟨by omega, by omega⟩ rfl (Nat.le_of_ble_eq_true rfl) dL_law_2166 rfl rfl ?_
  refine Vw.istore (pc := 2169) K dL_law_2169 (by decide) ?_
  refine Vw.aload_n (pc := 2171) (x := x2) K dL_law_2171 rfl ?_
  refine Vw.aload_n (pc := 2172) (x := 92) K dL_law_2172 rfl ?_
  refine Vw.iload (pc := 2173) (x := x4) K dL_law_2173 rfl ?_
  refine Vw.iconst (pc := 2175) (v := (1 : Int32)) K (by decide) dL_law_2175 ?_
  refine Vw.iadd (pc := 2176) K dL_law_2176 ?_
  obtain ⟨g533, h⟩ := wgd h
  refine Vw.sld (pc := 2177) K hX g533 dL_law_2177 ?_
  obtain ⟨g534, h⟩ := wgd h
  obtain ⟨p536, e535, h⟩ := wbd h
  refine Vw.cV1 (pc := 2178) (v := .inl p536.1) (c' := c + 2) (n' := n + 12) K (s_X9_restore K.tr e535) cal_X9_restore cls7 u_8_104 g534 rfl ⟨by decide, by decide⟩ ⟨by omega, by omega⟩ rfl (Nat.le_of_ble_eq_true rfl) dL_law_2178 rfl rfl ?_
  refine Vw.istore (pc := 2181) K dL_law_2181 (by decide) ?_
  refine Vw.aload_n (pc := 2183) (x := x2) K dL_law_2183 rfl ?_
  obtain ⟨g537, h⟩ := wgd h
  obtain ⟨v539, e538, h⟩ := wbd h
  refine Vw.cV1 (pc := 2184) (v := .inl v539) (c' := c + 2) (n' := n + 12) K (s_X9_thrown K.tr e538) cal_X9_thrown cls7 u_6_134 g537 rfl ⟨by decide, by decide⟩ ⟨by omega, by omega⟩ rfl (Nat.le_of_ble_eq_true rfl) dL_law_2184 rfl rfl ?_
  refine Vw.iload (pc := 2187) (x := p532.1) K dL_law_2187 rfl ?_
  refine Vw.icmp_eq (pc := 2189) (tgt := 2194) K dL_law_2189 (by decide) (fun c540 => ?_) (fun c540 => ?_)
  · have h := wpos c540 h
    refine Vw.iload (pc := 2194) (x := p532.1) K dL_law_2194 rfl ?_
    refine Vw.if_ne (pc := 2196) (tgt := 2211) K dL_law_2196 (by decide) (fun c541 => ?_) (fun c541 => ?_)
    · have h := wneg c541 h
      refine Vw.goto (pc := 2211) (tgt := 2228) K dL_law_2211 (by decide) ?_
      exact Vw.loc rfl (s_L_law_2228 K E hX (fu := fu) (by omega) (by omega) hr23 h)
    · have h := wpos c541 h
      refine Vw.aload_n (pc := 2199) (x := x3) K dL_law_2199 rfl ?_
      refine Vw.iconst (pc := 2200) (v := (0 : Int32)) K (by decide) dL_law_2200 ?_
      obtain ⟨g542, h⟩ := wgd h
      obtain ⟨g543, h⟩ := wgd h
      refine Vw.laload (pc := 2201) K g542 g543 dL_law_2201 ?_
      refine Vw.iload (pc := 2202) (x := p536.1) K dL_law_2202 rfl ?_
      refine Vw.i2l (pc := 2204) K dL_law_2204 ?_
      refine Vw.lcmp_eq (pc := 2205) (tgt := 2211) K dL_law_2205 dL_law_2206 (by decide) (fun c544 => ?_) (fun c544 => ?_)
      · have h := wpos c544 h
        refine Vw.goto (pc := 2211) (tgt := 2228) K dL_law_2211 (by decide) ?_
        exact Vw.loc rfl (s_L_law_2228 K E hX (fu := fu) (by omega) (by omega) hr23 h)
      · have h := wneg c544 h
        refine Vw.iconst (pc := 2209) (v := (0 : Int32)) K (by decide) dL_law_2209 ?_
        exact Vw.lawret (pc := 2210) K E h (by omega) (by omega) dL_law_2210
  · have h := wneg c540 h
    refine Vw.iconst (pc := 2192) (v := (0 : Int32)) K (by decide) dL_law_2192 ?_
    exact Vw.lawret (pc := 2193) K E h (by omega) (by omega) dL_law_2193
def k_L_law_2214 (xs : Nat → Int32) (Ln : Nat) (rec23 : Hp → Int32 → Option Int32) (A : Hp) (x1 : Nat) (x2 : Nat) (x3 : Nat) (x4 : Int32)  : Option Int32 := if (hsh A x1).1 = 7 then ((f_X8_fingerprint A x1).bind fun v547 => if (hsh A x2).1 = 8 then ((f_X9_fingerprint A x2).bind fun p550 => (if v547 = p550.1 then k_L_law_2228 xs Ln rec23 p550.2 x1 x2 x3 x4 else some (0 : Int32))) else none) else none
set_option maxRecDepth 100000 in
theorem s_L_law_2214 {κ : KT} {xs : Nat → Int32} {Ln : Nat} {rec23 : Hp → Int32 → Option Int32} {A : Hp} {x1 : Nat} {x2 : Nat} {x3 : Nat} {x4 : Int32}  {c n fu : Nat} (K : Cx κ cL_law 8 RL 14 540 601024 7293034) (E : EdW κ) (hX : SX κ Ln xs) (hc9 : c + fu * 423 + 0 ≤ 217462) (hn9 : n + fu * 8600 + 0 ≤ 4447408) (hr23 : ∀ (c n : Nat) (A : Hp) (x4 : Int32), c + fu * 423 ≤ 217462 → n + fu * 8600 ≤ 4447408 → rec23 A x4 = some 1 → Vw κ A c n 23 [(0, .inr (.inr 92)), (1, .inr (.inr x1)), (2, .inr (.inr x2)), (3, .inr (.inr x3)), (4, .inl x4)] []) (h : k_L_law_2214 xs Ln rec23 A x1 x2 x3 x4  = some 1) : Vw κ A c n 2214 [(0, .inr (.inr 92)), (1, .inr (.inr x1)), (2, .inr (.inr x2)), (3, .inr (.inr x3)), (4, .inl x4)] [] := by
  unfold k_L_law_2214 at h
  refine Vw.aload_n (pc := 2214) (x := x1) K dL_law_2214 rfl ?_
  obtain ⟨g545, h⟩ := wgd h
  obtain ⟨v547, e546, h⟩ := wbd h
  refine Vw.cV1 (pc := 2215) (v := .inr (.inl v547)) (c' := c) (n' := n) K (s_X8_fingerprint K.tr e546) cal_X8_fingerprint cls6 u_3_6 g545 rfl ⟨by decide, by decide⟩ ⟨by omega, by omega⟩ rfl (Nat.le_of_ble_eq_true rfl) dL_law_2215 rfl rfl ?_
  refine Vw.aload_n (pc := 2218) (x := x2) K dL_law_2218 rfl ?_
  obtain ⟨g548, h⟩ := wgd h
  obtain ⟨p550, e549, h⟩ := wbd h
  refine Vw.cV1 (pc := 2219) (v := .inr (.inl p550.1)) (c' := c) (n' := n) K (s_X9_fingerprint K.tr e549) cal_X9_fingerprint cls7 u_8_108 g548 rfl ⟨by decide, by decide⟩ ⟨by omega, by omega⟩ rfl (Nat.le_of_ble_eq_true rfl) dL_law_2219 rfl rfl ?_
  refine Vw.lcmp_eq (pc := 2222) (tgt := 2228) K dL_law_2222 dL_law_2223 (by decide) (fun c551 => ?_) (fun c551 => ?_)
  · have h := wpos c551 h
    exact Vw.loc rfl (s_L_law_2228 K E hX (fu := fu) (by omega) (by omega) hr23 h)
  · have h := wneg c551 h
    refine Vw.iconst (pc := 2226) (v := (0 : Int32)) K (by decide) dL_law_2226 ?_
    exact Vw.lawret (pc := 2227) K E h (by omega) (by omega) dL_law_2227
def k_L_law_23s (xs : Nat → Int32) (Ln : Nat) (x1 : Nat) (x2 : Nat) (x3 : Nat) (rec23 : Hp → Int32 → Option Int32) (A : Hp) (x4 : Int32) : Option Int32 := (if ((nI Ln) - (4 : Int32)) < x4 then some (1 : Int32) else if wix x4 Ln then (if ((xs x4.toNatClampNeg) &&& (63 : Int32)) < 0 ∨ (39 : Int32) < ((xs x4.toNatClampNeg) &&& (63 : Int32)) then k_L_law_2228 xs Ln rec23 A x1 x2 x3 x4 else if ((xs x4.toNatClampNeg) &&& (63 : Int32)) = (0 : Int32) then k_L_law_212 xs Ln rec23 A x1 x2 x3 x4 else if ((xs x4.toNatClampNeg) &&& (63 : Int32)) = (1 : Int32) then k_L_law_268 xs Ln rec23 A x1 x2 x3 x4 else if ((xs x4.toNatClampNeg) &&& (63 : Int32)) = (2 : Int32) then k_L_law_281 xs Ln rec23 A x1 x2 x3 x4 else if ((xs x4.toNatClampNeg) &&& (63 : Int32)) = (3 : Int32) then k_L_law_294 xs Ln rec23 A x1 x2 x3 x4 else if ((xs x4.toNatClampNeg) &&& (63 : Int32)) = (4 : Int32) then k_L_law_307 xs Ln rec23 A x1 x2 x3 x4 else if ((xs x4.toNatClampNeg) &&& (63 : Int32)) = (5 : Int32) then k_L_law_358 xs Ln rec23 A x1 x2 x3 x4 else if ((xs x4.toNatClampNeg) &&& (63 : Int32)) = (6 : Int32) then k_L_law_414 xs Ln rec23 A x1 x2 x3 x4 else if ((xs x4.toNatClampNeg) &&& (63 : Int32)) = (7 : Int32) then k_L_law_458 xs Ln rec23 A x1 x2 x3 x4 else if ((xs x4.toNatClampNeg) &&& (63 : Int32)) = (8 : Int32) then k_L_law_530 xs Ln rec23 A x1 x2 x3 x4 else if ((xs x4.toNatClampNeg) &&& (63 : Int32)) = (9 : Int32) then k_L_law_586 xs Ln rec23 A x1 x2 x3 x4 else if ((xs x4.toNatClampNeg) &&& (63 : Int32)) = (10 : Int32) then k_L_law_686 xs Ln rec23 A x1 x2 x3 x4 else if ((xs x4.toNatClampNeg) &&& (63 : Int32)) = (11 : Int32) then k_L_law_742 xs Ln rec23 A x1 x2 x3 x4 else if ((xs x4.toNatClampNeg) &&& (63 : Int32)) = (12 : Int32) then k_L_law_861 xs Ln rec23 A x1 x2 x3 x4 else if ((xs x4.toNatClampNeg) &&& (63 : Int32)) = (13 : Int32) then k_L_law_874 xs Ln rec23 A x1 x2 x3 x4 else if ((xs x4.toNatClampNeg) &&& (63 : Int32)) = (14 : Int32) then k_L_law_942 xs Ln rec23 A x1 x2 x3 x4 else if ((xs x4.toNatClampNeg) &&& (63 : Int32)) = (15 : Int32) then k_L_law_1010 xs Ln rec23 A x1 x2 x3 x4 else if ((xs x4.toNatClampNeg) &&& (63 : Int32)) = (16 : Int32) then k_L_law_1078 xs Ln rec23 A x1 x2 x3 x4 else if ((xs x4.toNatClampNeg) &&& (63 : Int32)) = (17 : Int32) then k_L_law_1146 xs Ln rec23 A x1 x2 x3 x4 else if ((xs x4.toNatClampNeg) &&& (63 : Int32)) = (18 : Int32) then k_L_law_1201 xs Ln rec23 A x1 x2 x3 x4 else if ((xs x4.toNatClampNeg) &&& (63 : Int32)) = (19 : Int32) then k_L_law_1256 xs Ln rec23 A x1 x2 x3 x4 else if ((xs x4.toNatClampNeg) &&& (63 : Int32)) = (20 : Int32) then k_L_law_1311 xs Ln rec23 A x1 x2 x3 x4 else if ((xs x4.toNatClampNeg) &&& (63 : Int32)) = (21 : Int32) then k_L_law_1367 xs Ln rec23 A x1 x2 x3 x4 else if ((xs x4.toNatClampNeg) &&& (63 : Int32)) = (22 : Int32) then k_L_law_1430 xs Ln rec23 A x1 x2 x3 x4 else if ((xs x4.toNatClampNeg) &&& (63 : Int32)) = (23 : Int32) then k_L_law_1493 xs Ln rec23 A x1 x2 x3 x4 else if ((xs x4.toNatClampNeg) &&& (63 : Int32)) = (24 : Int32) then k_L_law_1556 xs Ln rec23 A x1 x2 x3 x4 else if ((xs x4.toNatClampNeg) &&& (63 : Int32)) = (25 : Int32) then k_L_law_1612 xs Ln rec23 A x1 x2 x3 x4 else if ((xs x4.toNatClampNeg) &&& (63 : Int32)) = (26 : Int32) then k_L_law_1668 xs Ln rec23 A x1 x2 x3 x4 else if ((xs x4.toNatClampNeg) &&& (63 : Int32)) = (27 : Int32) then k_L_law_1712 xs Ln rec23 A x1 x2 x3 x4 else if ((xs x4.toNatClampNeg) &&& (63 : Int32)) = (28 : Int32) then k_L_law_1768 xs Ln rec23 A x1 x2 x3 x4 else if ((xs x4.toNatClampNeg) &&& (63 : Int32)) = (29 : Int32) then k_L_law_1812 xs Ln rec23 A x1 x2 x3 x4 else if ((xs x4.toNatClampNeg) &&& (63 : Int32)) = (30 : Int32) then k_L_law_1825 xs Ln rec23 A x1 x2 x3 x4 else if ((xs x4.toNatClampNeg) &&& (63 : Int32)) = (31 : Int32) then k_L_law_1881 xs Ln rec23 A x1 x2 x3 x4 else if ((xs x4.toNatClampNeg) &&& (63 : Int32)) = (32 : Int32) then k_L_law_1895 xs Ln rec23 A x1 x2 x3 x4 else if ((xs x4.toNatClampNeg) &&& (63 : Int32)) = (33 : Int32) then k_L_law_1909 xs Ln rec23 A x1 x2 x3 x4 else if ((xs x4.toNatClampNeg) &&& (63 : Int32)) = (34 : Int32) then k_L_law_1977 xs Ln rec23 A x1 x2 x3 x4 else if ((xs x4.toNatClampNeg) &&& (63 : Int32)) = (35 : Int32) then k_L_law_2033 xs Ln rec23 A x1 x2 x3 x4 else if ((xs x4.toNatClampNeg) &&& (63 : Int32)) = (36 : Int32) then k_L_law_2046 xs Ln rec23 A x1 x2 x3 x4 else if ((xs x4.toNatClampNeg) &&& (63 : Int32)) = (37 : Int32) then k_L_law_2102 xs Ln rec23 A x1 x2 x3 x4 else if ((xs x4.toNatClampNeg) &&& (63 : Int32)) = (38 : Int32) then k_L_law_2158 xs Ln rec23 A x1 x2 x3 x4 else if ((xs x4.toNatClampNeg) &&& (63 : Int32)) = (39 : Int32) then k_L_law_2214 xs Ln rec23 A x1 x2 x3 x4 else none) else none)
def k_L_law_23 (xs : Nat → Int32) (Ln : Nat) (x1 : Nat) (x2 : Nat) (x3 : Nat) : Nat → Hp → Int32 → Option Int32
  | 0 => fun _ _ => none
  | fu + 1 => k_L_law_23s xs Ln x1 x2 x3 (k_L_law_23 xs Ln x1 x2 x3 fu)
set_option maxRecDepth 100000 in
theorem s_L_law_23 {κ : KT} {xs : Nat → Int32} {Ln : Nat} {x1 : Nat} {x2 : Nat} {x3 : Nat} (K : Cx κ cL_law 8 RL 14 540 601024 7293034) (E : EdW κ) (hX : SX κ Ln xs) : ∀ (fu c n : Nat) (A : Hp) (x4 : Int32), c + fu * 423 ≤ 217462 → n + fu * 8600 ≤ 4447408 → k_L_law_23 xs Ln x1 x2 x3 fu A x4 = some 1 → Vw κ A c n 23 [(0, .inr (.inr 92)), (1, .inr (.inr x1)), (2, .inr (.inr x2)), (3, .inr (.inr x3)), (4, .inl x4)] [] := by
  intro fu
  induction fu with
  | zero => intro c n A x4 hc9 hn9 h; cases h
  | succ fu hr23 =>
    intro c n A x4 hc9 hn9 h
    have h : k_L_law_23s xs Ln x1 x2 x3 (k_L_law_23 xs Ln x1 x2 x3 fu) A x4 = some 1 := h
    unfold k_L_law_23s at h
    refine Vw.iload (pc := 23) (x := x4) K dL_law_23 rfl ?_
    refine Vw.aload_n (pc := 25) (x := 92) K dL_law_25 rfl ?_
    refine Vw.slen (pc := 26) K hX dL_law_26 ?_
    refine Vw.iconst (pc := 27) (v := (4 : Int32)) K (by decide) dL_law_27 ?_
    refine Vw.isub (pc := 28) K dL_law_28 ?_
    refine Vw.icmp_gt (pc := 29) (tgt := 2234) K dL_law_29 (by decide) (fun c552 => ?_) (fun c552 => ?_)
    · have h := wpos c552 h
      refine Vw.iconst (pc := 2234) (v := (1 : Int32)) K (by decide) dL_law_2234 ?_
      exact Vw.lawret (pc := 2235) K E h (by omega) (by omega) dL_law_2235
    · have h := wneg c552 h
      refine Vw.aload_n (pc := 32) (x := 92) K dL_law_32 rfl ?_
      refine Vw.iload (pc := 33) (x := x4) K dL_law_33 rfl ?_
      obtain ⟨g553, h⟩ := wgd h
      refine Vw.sld (pc := 35) K hX g553 dL_law_35 ?_
      refine Vw.bipush (pc := 36) (v := (63 : Int32)) K (by decide) dL_law_36 ?_
      refine Vw.iand (pc := 38) K dL_law_38 ?_
      by_cases c554 : ((xs x4.toNatClampNeg) &&& (63 : Int32)) < 0 ∨ (39 : Int32) < ((xs x4.toNatClampNeg) &&& (63 : Int32))
      · have h := wpos c554 h
        refine Vw.tswO (pc := 39) (tgt := 2228) K dL_law_39 (by decide) c554 (by decide) ?_
        exact Vw.loc rfl (s_L_law_2228 K E hX (fu := fu) (by omega) (by omega) hr23 h)
      have h := wneg c554 h
      by_cases c555 : ((xs x4.toNatClampNeg) &&& (63 : Int32)) = (0 : Int32)
      · have h := wpos c555 h
        refine Vw.tswI (pc := 39) (tgt := 212) (off := 173) K (0 : Int32) c555 dL_law_39 (by decide) (by decide) (by decide) (by decide) ?_
        exact Vw.loc rfl (s_L_law_212 K E hX (fu := fu) (by omega) (by omega) hr23 h)
      have h := wneg c555 h
      by_cases c556 : ((xs x4.toNatClampNeg) &&& (63 : Int32)) = (1 : Int32)
      · have h := wpos c556 h
        refine Vw.tswI (pc := 39) (tgt := 268) (off := 229) K (1 : Int32) c556 dL_law_39 (by decide) (by decide) (by decide) (by decide) ?_
        exact Vw.loc rfl (s_L_law_268 K E hX (fu := fu) (by omega) (by omega) hr23 h)
      have h := wneg c556 h
      by_cases c557 : ((xs x4.toNatClampNeg) &&& (63 : Int32)) = (2 : Int32)
      · have h := wpos c557 h
        refine Vw.tswI (pc := 39) (tgt := 281) (off := 242) K (2 : Int32) c557 dL_law_39 (by decide) (by decide) (by decide) (by decide) ?_
        exact Vw.loc rfl (s_L_law_281 K E hX (fu := fu) (by omega) (by omega) hr23 h)
      have h := wneg c557 h
      by_cases c558 : ((xs x4.toNatClampNeg) &&& (63 : Int32)) = (3 : Int32)
      · have h := wpos c558 h
        refine Vw.tswI (pc := 39) (tgt := 294) (off := 255) K (3 : Int32) c558 dL_law_39 (by decide) (by decide) (by decide) (by decide) ?_
        exact Vw.loc rfl (s_L_law_294 K E hX (fu := fu) (by omega) (by omega) hr23 h)
      have h := wneg c558 h
      by_cases c559 : ((xs x4.toNatClampNeg) &&& (63 : Int32)) = (4 : Int32)
      · have h := wpos c559 h
        refine Vw.tswI (pc := 39) (tgt := 307) (off := 268) K (4 : Int32) c559 dL_law_39 (by decide) (by decide) (by decide) (by decide) ?_
        exact Vw.loc rfl (s_L_law_307 K E hX (fu := fu) (by omega) (by omega) hr23 h)
      have h := wneg c559 h
      by_cases c560 : ((xs x4.toNatClampNeg) &&& (63 : Int32)) = (5 : Int32)
      · have h := wpos c560 h
        refine Vw.tswI (pc := 39) (tgt := 358) (off := 319) K (5 : Int32) c560 dL_law_39 (by decide) (by decide) (by decide) (by decide) ?_
        exact Vw.loc rfl (s_L_law_358 K E hX (fu := fu) (by omega) (by omega) hr23 h)
      have h := wneg c560 h
      by_cases c561 : ((xs x4.toNatClampNeg) &&& (63 : Int32)) = (6 : Int32)
      · have h := wpos c561 h
        refine Vw.tswI (pc := 39) (tgt := 414) (off := 375) K (6 : Int32) c561 dL_law_39 (by decide) (by decide) (by decide) (by decide) ?_
        exact Vw.loc rfl (s_L_law_414 K E hX (fu := fu) (by omega) (by omega) hr23 h)
      have h := wneg c561 h
      by_cases c562 : ((xs x4.toNatClampNeg) &&& (63 : Int32)) = (7 : Int32)
      · have h := wpos c562 h
        refine Vw.tswI (pc := 39) (tgt := 458) (off := 419) K (7 : Int32) c562 dL_law_39 (by decide) (by decide) (by decide) (by decide) ?_
        exact Vw.loc rfl (s_L_law_458 K E hX (fu := fu) (by omega) (by omega) hr23 h)
      have h := wneg c562 h
      by_cases c563 : ((xs x4.toNatClampNeg) &&& (63 : Int32)) = (8 : Int32)
      · have h := wpos c563 h
        refine Vw.tswI (pc := 39) (tgt := 530) (off := 491) K (8 : Int32) c563 dL_law_39 (by decide) (by decide) (by decide) (by decide) ?_
        exact Vw.loc rfl (s_L_law_530 K E hX (fu := fu) (by omega) (by omega) hr23 h)
      have h := wneg c563 h
      by_cases c564 : ((xs x4.toNatClampNeg) &&& (63 : Int32)) = (9 : Int32)
      · have h := wpos c564 h
        refine Vw.tswI (pc := 39) (tgt := 586) (off := 547) K (9 : Int32) c564 dL_law_39 (by decide) (by decide) (by decide) (by decide) ?_
        exact Vw.loc rfl (s_L_law_586 K E hX (fu := fu) (by omega) (by omega) hr23 h)
      have h := wneg c564 h
      by_cases c565 : ((xs x4.toNatClampNeg) &&& (63 : Int32)) = (10 : Int32)
      · have h := wpos c565 h
        refine Vw.tswI (pc := 39) (tgt := 686) (off := 647) K (10 : Int32) c565 dL_law_39 (by decide) (by decide) (by decide) (by decide) ?_
        exact Vw.loc rfl (s_L_law_686 K E hX (fu := fu) (by omega) (by omega) hr23 h)
      have h := wneg c565 h
      by_cases c566 : ((xs x4.toNatClampNeg) &&& (63 : Int32)) = (11 : Int32)
      · have h := wpos c566 h
        refine Vw.tswI (pc := 39) (tgt := 742) (off := 703) K (11 : Int32) c566 dL_law_39 (by decide) (by decide) (by decide) (by decide) ?_
        exact Vw.loc rfl (s_L_law_742 K E hX (fu := fu) (by omega) (by omega) hr23 h)
      have h := wneg c566 h
      by_cases c567 : ((xs x4.toNatClampNeg) &&& (63 : Int32)) = (12 : Int32)
      · have h := wpos c567 h
        refine Vw.tswI (pc := 39) (tgt := 861) (off := 822) K (12 : Int32) c567 dL_law_39 (by decide) (by decide) (by decide) (by decide) ?_
        exact Vw.loc rfl (s_L_law_861 K E hX (fu := fu) (by omega) (by omega) hr23 h)
      have h := wneg c567 h
      by_cases c568 : ((xs x4.toNatClampNeg) &&& (63 : Int32)) = (13 : Int32)
      · have h := wpos c568 h
        refine Vw.tswI (pc := 39) (tgt := 874) (off := 835) K (13 : Int32) c568 dL_law_39 (by decide) (by decide) (by decide) (by decide) ?_
        exact Vw.loc rfl (s_L_law_874 K E hX (fu := fu) (by omega) (by omega) hr23 h)
      have h := wneg c568 h
      by_cases c569 : ((xs x4.toNatClampNeg) &&& (63 : Int32)) = (14 : Int32)
      · have h := wpos c569 h
        refine Vw.tswI (pc := 39) (tgt := 942) (off := 903) K (14 : Int32) c569 dL_law_39 (by decide) (by decide) (by decide) (by decide) ?_
        exact Vw.loc rfl (s_L_law_942 K E hX (fu := fu) (by omega) (by omega) hr23 h)
      have h := wneg c569 h
      by_cases c570 : ((xs x4.toNatClampNeg) &&& (63 : Int32)) = (15 : Int32)
      · have h := wpos c570 h
        refine Vw.tswI (pc := 39) (tgt := 1010) (off := 971) K (15 : Int32) c570 dL_law_39 (by decide) (by decide) (by decide) (by decide) ?_
        exact Vw.loc rfl (s_L_law_1010 K E hX (fu := fu) (by omega) (by omega) hr23 h)
      have h := wneg c570 h
      by_cases c571 : ((xs x4.toNatClampNeg) &&& (63 : Int32)) = (16 : Int32)
      · have h := wpos c571 h
        refine Vw.tswI (pc := 39) (tgt := 1078) (off := 1039) K (16 : Int32) c571 dL_law_39 (by decide) (by decide) (by decide) (by decide) ?_
        exact Vw.loc rfl (s_L_law_1078 K E hX (fu := fu) (by omega) (by omega) hr23 h)
      have h := wneg c571 h
      by_cases c572 : ((xs x4.toNatClampNeg) &&& (63 : Int32)) = (17 : Int32)
      · have h := wpos c572 h
        refine Vw.tswI (pc := 39) (tgt := 1146) (off := 1107) K (17 : Int32) c572 dL_law_39 (by decide) (by decide) (by decide) (by decide) ?_
        exact Vw.loc rfl (s_L_law_1146 K E hX (fu := fu) (by omega) (by omega) hr23 h)
      have h := wneg c572 h
      by_cases c573 : ((xs x4.toNatClampNeg) &&& (63 : Int32)) = (18 : Int32)
      · have h := wpos c573 h
        refine Vw.tswI (pc := 39) (tgt := 1201) (off := 1162) K (18 : Int32) c573 dL_law_39 (by decide) (by decide) (by decide) (by decide) ?_
        exact Vw.loc rfl (s_L_law_1201 K E hX (fu := fu) (by omega) (by omega) hr23 h)
      have h := wneg c573 h
      by_cases c574 : ((xs x4.toNatClampNeg) &&& (63 : Int32)) = (19 : Int32)
      · have h := wpos c574 h
        refine Vw.tswI (pc := 39) (tgt := 1256) (off := 1217) K (19 : Int32) c574 dL_law_39 (by decide) (by decide) (by decide) (by decide) ?_
        exact Vw.loc rfl (s_L_law_1256 K E hX (fu := fu) (by omega) (by omega) hr23 h)
      have h := wneg c574 h
      by_cases c575 : ((xs x4.toNatClampNeg) &&& (63 : Int32)) = (20 : Int32)
      · have h := wpos c575 h
        refine Vw.tswI (pc := 39) (tgt := 1311) (off := 1272) K (20 : Int32) c575 dL_law_39 (by decide) (by decide) (by decide) (by decide) ?_
        exact Vw.loc rfl (s_L_law_1311 K E hX (fu := fu) (by omega) (by omega) hr23 h)
      have h := wneg c575 h
      by_cases c576 : ((xs x4.toNatClampNeg) &&& (63 : Int32)) = (21 : Int32)
      · have h := wpos c576 h
        refine Vw.tswI (pc := 39) (tgt := 1367) (off := 1328) K (21 : Int32) c576 dL_law_39 (by decide) (by decide) (by decide) (by decide) ?_
        exact Vw.loc rfl (s_L_law_1367 K E hX (fu := fu) (by omega) (by omega) hr23 h)
      have h := wneg c576 h
      by_cases c577 : ((xs x4.toNatClampNeg) &&& (63 : Int32)) = (22 : Int32)
      · have h := wpos c577 h
        refine Vw.tswI (pc := 39) (tgt := 1430) (off := 1391) K (22 : Int32) c577 dL_law_39 (by decide) (by decide) (by decide) (by decide) ?_
        exact Vw.loc rfl (s_L_law_1430 K E hX (fu := fu) (by omega) (by omega) hr23 h)
      have h := wneg c577 h
      by_cases c578 : ((xs x4.toNatClampNeg) &&& (63 : Int32)) = (23 : Int32)
      · have h := wpos c578 h
        refine Vw.tswI (pc := 39) (tgt := 1493) (off := 1454) K (23 : Int32) c578 dL_law_39 (by decide) (by decide) (by decide) (by decide) ?_
        exact Vw.loc rfl (s_L_law_1493 K E hX (fu := fu) (by omega) (by omega) hr23 h)
      have h := wneg c578 h
      by_cases c579 : ((xs x4.toNatClampNeg) &&& (63 : Int32)) = (24 : Int32)
      · have h := wpos c579 h
        refine Vw.tswI (pc := 39) (tgt := 1556) (off := 1517) K (24 : Int32) c579 dL_law_39 (by decide) (by decide) (by decide) (by decide) ?_
        exact Vw.loc rfl (s_L_law_1556 K E hX (fu := fu) (by omega) (by omega) hr23 h)
      have h := wneg c579 h
      by_cases c580 : ((xs x4.toNatClampNeg) &&& (63 : Int32)) = (25 : Int32)
      · have h := wpos c580 h
        refine Vw.tswI (pc := 39) (tgt := 1612) (off := 1573) K (25 : Int32) c580 dL_law_39 (by decide) (by decide) (by decide) (by decide) ?_
        exact Vw.loc rfl (s_L_law_1612 K E hX (fu := fu) (by omega) (by omega) hr23 h)
      have h := wneg c580 h
      by_cases c581 : ((xs x4.toNatClampNeg) &&& (63 : Int32)) = (26 : Int32)
      · have h := wpos c581 h
        refine Vw.tswI (pc := 39) (tgt := 1668) (off := 1629) K (26 : Int32) c581 dL_law_39 (by decide) (by decide) (by decide) (by decide) ?_
        exact Vw.loc rfl (s_L_law_1668 K E hX (fu := fu) (by omega) (by omega) hr23 h)
      have h := wneg c581 h
      by_cases c582 : ((xs x4.toNatClampNeg) &&& (63 : Int32)) = (27 : Int32)
      · have h := wpos c582 h
        refine Vw.tswI (pc := 39) (tgt := 1712) (off := 1673) K (27 : Int32) c582 dL_law_39 (by decide) (by decide) (by decide) (by decide) ?_
        exact Vw.loc rfl (s_L_law_1712 K E hX (fu := fu) (by omega) (by omega) hr23 h)
      have h := wneg c582 h
      by_cases c583 : ((xs x4.toNatClampNeg) &&& (63 : Int32)) = (28 : Int32)
      · have h := wpos c583 h
        refine Vw.tswI (pc := 39) (tgt := 1768) (off := 1729) K (28 : Int32) c583 dL_law_39 (by decide) (by decide) (by decide) (by decide) ?_
        exact Vw.loc rfl (s_L_law_1768 K E hX (fu := fu) (by omega) (by omega) hr23 h)
      have h := wneg c583 h
      by_cases c584 : ((xs x4.toNatClampNeg) &&& (63 : Int32)) = (29 : Int32)
      · have h := wpos c584 h
        refine Vw.tswI (pc := 39) (tgt := 1812) (off := 1773) K (29 : Int32) c584 dL_law_39 (by decide) (by decide) (by decide) (by decide) ?_
        exact Vw.loc rfl (s_L_law_1812 K E hX (fu := fu) (by omega) (by omega) hr23 h)
      have h := wneg c584 h
      by_cases c585 : ((xs x4.toNatClampNeg) &&& (63 : Int32)) = (30 : Int32)
      · have h := wpos c585 h
        refine Vw.tswI (pc := 39) (tgt := 1825) (off := 1786) K (30 : Int32) c585 dL_law_39 (by decide) (by decide) (by decide) (by decide) ?_
        exact Vw.loc rfl (s_L_law_1825 K E hX (fu := fu) (by omega) (by omega) hr23 h)
      have h := wneg c585 h
      by_cases c586 : ((xs x4.toNatClampNeg) &&& (63 : Int32)) = (31 : Int32)
      · have h := wpos c586 h
        refine Vw.tswI (pc := 39) (tgt := 1881) (off := 1842) K (31 : Int32) c586 dL_law_39 (by decide) (by decide) (by decide) (by decide) ?_
        exact Vw.loc rfl (s_L_law_1881 K E hX (fu := fu) (by omega) (by omega) hr23 h)
      have h := wneg c586 h
      by_cases c587 : ((xs x4.toNatClampNeg) &&& (63 : Int32)) = (32 : Int32)
      · have h := wpos c587 h
        refine Vw.tswI (pc := 39) (tgt := 1895) (off := 1856) K (32 : Int32) c587 dL_law_39 (by decide) (by decide) (by decide) (by decide) ?_
        exact Vw.loc rfl (s_L_law_1895 K E hX (fu := fu) (by omega) (by omega) hr23 h)
      have h := wneg c587 h
      by_cases c588 : ((xs x4.toNatClampNeg) &&& (63 : Int32)) = (33 : Int32)
      · have h := wpos c588 h
        refine Vw.tswI (pc := 39) (tgt := 1909) (off := 1870) K (33 : Int32) c588 dL_law_39 (by decide) (by decide) (by decide) (by decide) ?_
        exact Vw.loc rfl (s_L_law_1909 K E hX (fu := fu) (by omega) (by omega) hr23 h)
      have h := wneg c588 h
      by_cases c589 : ((xs x4.toNatClampNeg) &&& (63 : Int32)) = (34 : Int32)
      · have h := wpos c589 h
        refine Vw.tswI (pc := 39) (tgt := 1977) (off := 1938) K (34 : Int32) c589 dL_law_39 (by decide) (by decide) (by decide) (by decide) ?_
        exact Vw.loc rfl (s_L_law_1977 K E hX (fu := fu) (by omega) (by omega) hr23 h)
      have h := wneg c589 h
      by_cases c590 : ((xs x4.toNatClampNeg) &&& (63 : Int32)) = (35 : Int32)
      · have h := wpos c590 h
        refine Vw.tswI (pc := 39) (tgt := 2033) (off := 1994) K (35 : Int32) c590 dL_law_39 (by decide) (by decide) (by decide) (by decide) ?_
        exact Vw.loc rfl (s_L_law_2033 K E hX (fu := fu) (by omega) (by omega) hr23 h)
      have h := wneg c590 h
      by_cases c591 : ((xs x4.toNatClampNeg) &&& (63 : Int32)) = (36 : Int32)
      · have h := wpos c591 h
        refine Vw.tswI (pc := 39) (tgt := 2046) (off := 2007) K (36 : Int32) c591 dL_law_39 (by decide) (by decide) (by decide) (by decide) ?_
        exact Vw.loc rfl (s_L_law_2046 K E hX (fu := fu) (by omega) (by omega) hr23 h)
      have h := wneg c591 h
      by_cases c592 : ((xs x4.toNatClampNeg) &&& (63 : Int32)) = (37 : Int32)
      · have h := wpos c592 h
        refine Vw.tswI (pc := 39) (tgt := 2102) (off := 2063) K (37 : Int32) c592 dL_law_39 (by decide) (by decide) (by decide) (by decide) ?_
        exact Vw.loc rfl (s_L_law_2102 K E hX (fu := fu) (by omega) (by omega) hr23 h)
      have h := wneg c592 h
      by_cases c593 : ((xs x4.toNatClampNeg) &&& (63 : Int32)) = (38 : Int32)
      · have h := wpos c593 h
        refine Vw.tswI (pc := 39) (tgt := 2158) (off := 2119) K (38 : Int32) c593 dL_law_39 (by decide) (by decide) (by decide) (by decide) ?_
        exact Vw.loc rfl (s_L_law_2158 K E hX (fu := fu) (by omega) (by omega) hr23 h)
      have h := wneg c593 h
      by_cases c594 : ((xs x4.toNatClampNeg) &&& (63 : Int32)) = (39 : Int32)
      · have h := wpos c594 h
        refine Vw.tswI (pc := 39) (tgt := 2214) (off := 2175) K (39 : Int32) c594 dL_law_39 (by decide) (by decide) (by decide) (by decide) ?_
        exact Vw.loc rfl (s_L_law_2214 K E hX (fu := fu) (by omega) (by omega) hr23 h)
      have h := wneg c594 h
      cases h
def f_L_law (xs : Nat → Int32) (Ln : Nat) (A : Hp) : Option Int32 := if (hsh (hmk A 7 0) (hsz A)).1 = 7 then ((f_X8_init (hmk A 7 0) (hsz A)).bind fun A597 => if (hsh (hmk A597 8 0) (hsz A597)).1 = 8 then ((f_X9_init (hmk A597 8 0) (hsz A597)).bind fun A600 => k_L_law_23 xs Ln (hsz A) (hsz A597) (hsz A600) 513 (hmk A600 11 1) (0 : Int32)) else none) else none
set_option maxRecDepth 100000 in
theorem s_L_law {κ : KT} {xs : Nat → Int32} {Ln : Nat} {A : Hp} (K : Cx κ cL_law 8 RL 14 540 601024 7293034) (E : EdW κ) (hX : SX κ Ln xs) (h : f_L_law xs Ln A = some 1) : Vw κ A 0 0 0 [(0, .inr (.inr 92))] [] := by
  unfold f_L_law at h
  refine Vw.newc (pc := 0) (c := 0) (n := 0) (c' := 1) (n' := 4) K cls6 clsd6 u_1_24 (by decide) (by decide) dL_law_0 rfl rfl ?_
  refine Vw.dup (pc := 3) K rfl dL_law_3 ?_
  obtain ⟨g595, h⟩ := wgd h
  obtain ⟨A597, e596, h⟩ := wbd h
  refine Vw.cI0K (pc := 4) (c' := 439) (n' := 9628) K (s_X8_init K.tr e596) cal_X8_init u_1_26 g595 rfl ⟨by decide, by decide⟩ ⟨by decide, by decide⟩ rfl (Nat.le_of_ble_eq_true rfl) dL_law_4 rfl rfl ?_
  refine Vw.astore_n (pc := 7) K dL_law_7 (by decide) ?_
  refine Vw.newc (pc := 8) (c := 439) (n := 9628) (c' := 440) (n' := 9666) K cls7 clsd7 u_6_9 (by decide) (by decide) dL_law_8 rfl rfl ?_
  refine Vw.dup (pc := 11) K rfl dL_law_11 ?_
  obtain ⟨g598, h⟩ := wgd h
  obtain ⟨A600, e599, h⟩ := wbd h
  refine Vw.cI0K (pc := 12) (c' := 462) (n' := 35607) K (s_X9_init K.tr e599) cal_X9_init u_6_11 g598 rfl ⟨by decide, by decide⟩ ⟨by decide, by decide⟩ rfl (Nat.le_of_ble_eq_true rfl) dL_law_12 rfl rfl ?_
  refine Vw.astore_n (pc := 15) K dL_law_15 (by decide) ?_
  refine Vw.iconst (pc := 16) (v := (1 : Int32)) K (by decide) dL_law_16 ?_
  refine Vw.newL_ (pc := 17) (c := 462) (n := 35607) (c' := 463) (n' := 35608) (N := 1) K u_6_132 (by decide) (by decide) (by decide) (by decide) (by decide) dL_law_17 rfl rfl ?_
  refine Vw.astore_n (pc := 19) K dL_law_19 (by decide) ?_
  refine Vw.iconst (pc := 20) (v := (0 : Int32)) K (by decide) dL_law_20 ?_
  refine Vw.istore (pc := 21) K dL_law_21 (by decide) ?_
  exact Vw.loc rfl (s_L_law_23 K E hX 513 _ _ _ _ (by decide) (by decide) h)
