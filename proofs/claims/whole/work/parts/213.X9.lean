def k_X9_fillsCookie_225  (A : Hp) (x0 : Nat)  : Option (Hp) := if (hsh A x0).1 = 8 then if (hsh A (hgR A 448 x0 0)).1 = 11 then if wix (8600 : Int32) (hsh A (hgR A 448 x0 0)).2 then if (hsh (hsL A 1035 (hgR A 448 x0 0) (8600 : Int32).toNatClampNeg ((hgI A 483 x0 0).toInt64)) (hgR (hsL A 1035 (hgR A 448 x0 0) (8600 : Int32).toNatClampNeg ((hgI A 483 x0 0).toInt64)) 448 x0 0)).1 = 11 then if wix (8601 : Int32) (hsh (hsL A 1035 (hgR A 448 x0 0) (8600 : Int32).toNatClampNeg ((hgI A 483 x0 0).toInt64)) (hgR (hsL A 1035 (hgR A 448 x0 0) (8600 : Int32).toNatClampNeg ((hgI A 483 x0 0).toInt64)) 448 x0 0)).2 then (if (16 : Int32) < (hgI (hsL (hsL A 1035 (hgR A 448 x0 0) (8600 : Int32).toNatClampNeg ((hgI A 483 x0 0).toInt64)) 1035 (hgR (hsL A 1035 (hgR A 448 x0 0) (8600 : Int32).toNatClampNeg ((hgI A 483 x0 0).toInt64)) 448 x0 0) (8601 : Int32).toNatClampNeg ((hgI (hsL A 1035 (hgR A 448 x0 0) (8600 : Int32).toNatClampNeg ((hgI A 483 x0 0).toInt64)) 485 x0 0).toInt64)) 483 x0 0) then some (hsL (hsL A 1035 (hgR A 448 x0 0) (8600 : Int32).toNatClampNeg ((hgI A 483 x0 0).toInt64)) 1035 (hgR (hsL A 1035 (hgR A 448 x0 0) (8600 : Int32).toNatClampNeg ((hgI A 483 x0 0).toInt64)) 448 x0 0) (8601 : Int32).toNatClampNeg ((hgI (hsL A 1035 (hgR A 448 x0 0) (8600 : Int32).toNatClampNeg ((hgI A 483 x0 0).toInt64)) 485 x0 0).toInt64)) else (if (32 : Int32) < (hgI (hsL (hsL A 1035 (hgR A 448 x0 0) (8600 : Int32).toNatClampNeg ((hgI A 483 x0 0).toInt64)) 1035 (hgR (hsL A 1035 (hgR A 448 x0 0) (8600 : Int32).toNatClampNeg ((hgI A 483 x0 0).toInt64)) 448 x0 0) (8601 : Int32).toNatClampNeg ((hgI (hsL A 1035 (hgR A 448 x0 0) (8600 : Int32).toNatClampNeg ((hgI A 483 x0 0).toInt64)) 485 x0 0).toInt64)) 485 x0 0) then some (hsL (hsL A 1035 (hgR A 448 x0 0) (8600 : Int32).toNatClampNeg ((hgI A 483 x0 0).toInt64)) 1035 (hgR (hsL A 1035 (hgR A 448 x0 0) (8600 : Int32).toNatClampNeg ((hgI A 483 x0 0).toInt64)) 448 x0 0) (8601 : Int32).toNatClampNeg ((hgI (hsL A 1035 (hgR A 448 x0 0) (8600 : Int32).toNatClampNeg ((hgI A 483 x0 0).toInt64)) 485 x0 0).toInt64)) else ((f_X9_copies (hsL (hsL A 1035 (hgR A 448 x0 0) (8600 : Int32).toNatClampNeg ((hgI A 483 x0 0).toInt64)) 1035 (hgR (hsL A 1035 (hgR A 448 x0 0) (8600 : Int32).toNatClampNeg ((hgI A 483 x0 0).toInt64)) 448 x0 0) (8601 : Int32).toNatClampNeg ((hgI (hsL A 1035 (hgR A 448 x0 0) (8600 : Int32).toNatClampNeg ((hgI A 483 x0 0).toInt64)) 485 x0 0).toInt64)) x0 ((8400 : Int32) + (hgI (hsL (hsL A 1035 (hgR A 448 x0 0) (8600 : Int32).toNatClampNeg ((hgI A 483 x0 0).toInt64)) 1035 (hgR (hsL A 1035 (hgR A 448 x0 0) (8600 : Int32).toNatClampNeg ((hgI A 483 x0 0).toInt64)) 448 x0 0) (8601 : Int32).toNatClampNeg ((hgI (hsL A 1035 (hgR A 448 x0 0) (8600 : Int32).toNatClampNeg ((hgI A 483 x0 0).toInt64)) 485 x0 0).toInt64)) 482 x0 0)) (hgI (hsL (hsL A 1035 (hgR A 448 x0 0) (8600 : Int32).toNatClampNeg ((hgI A 483 x0 0).toInt64)) 1035 (hgR (hsL A 1035 (hgR A 448 x0 0) (8600 : Int32).toNatClampNeg ((hgI A 483 x0 0).toInt64)) 448 x0 0) (8601 : Int32).toNatClampNeg ((hgI (hsL A 1035 (hgR A 448 x0 0) (8600 : Int32).toNatClampNeg ((hgI A 483 x0 0).toInt64)) 485 x0 0).toInt64)) 483 x0 0) (8614 : Int32)).bind fun A9 => if (hsh A9 x0).1 = 8 then ((f_X9_copies A9 x0 ((8400 : Int32) + (hgI A9 484 x0 0)) (hgI A9 485 x0 0) (8630 : Int32)).bind fun A12 => some A12) else none))) else none else none else none else none else none
set_option maxRecDepth 100000 in
theorem s_X9_fillsCookie_225 {κ : KT} {B : Hp} {A : Hp} {x0 : Nat}   (K : Cx κ cX9_fillsCookie 3 RX9 4 98 0 0) (E : Ed κ none "fillsCookie" (.inl none) B 0 0)  (h : k_X9_fillsCookie_225  A x0  = some B) : Vw κ A 0 0 225 [(0, .inr (.inr x0))] [] := by
  unfold k_X9_fillsCookie_225 at h
  refine Vw.aload_n (pc := 225) (x := x0) K dX9_fillsCookie_225 rfl ?_
  obtain ⟨g1, h⟩ := wgd h
  refine Vw.getR (pc := 226) (k := 0) (f := 448) K cls7 rfl rfl u_6_17 g1 dX9_fillsCookie_226 ?_
  refine Vw.sipush (pc := 229) (v := (8600 : Int32)) K (by decide) dX9_fillsCookie_229 ?_
  refine Vw.aload_n (pc := 232) (x := x0) K dX9_fillsCookie_232 rfl ?_
  refine Vw.getI (pc := 233) (k := 35) (f := 483) K cls7 rfl rfl u_6_52 g1 dX9_fillsCookie_233 ?_
  refine Vw.i2l (pc := 236) K dX9_fillsCookie_236 ?_
  obtain ⟨g2, h⟩ := wgd h
  obtain ⟨g3, h⟩ := wgd h
  refine Vw.lastore (pc := 237) K g2 g3 dX9_fillsCookie_237 ?_
  refine Vw.aload_n (pc := 238) (x := x0) K dX9_fillsCookie_238 rfl ?_
  refine Vw.getR (pc := 239) (k := 0) (f := 448) K cls7 rfl rfl u_6_17 g1 dX9_fillsCookie_239 ?_
  refine Vw.sipush (pc := 242) (v := (8601 : Int32)) K (by decide) dX9_fillsCookie_242 ?_
  refine Vw.aload_n (pc := 245) (x := x0) K dX9_fillsCookie_245 rfl ?_
  refine Vw.getI (pc := 246) (k := 37) (f := 485) K cls7 rfl rfl u_6_54 g1 dX9_fillsCookie_246 ?_
  refine Vw.i2l (pc := 249) K dX9_fillsCookie_249 ?_
  obtain ⟨g4, h⟩ := wgd h
  obtain ⟨g5, h⟩ := wgd h
  refine Vw.lastore (pc := 250) K g4 g5 dX9_fillsCookie_250 ?_
  refine Vw.aload_n (pc := 251) (x := x0) K dX9_fillsCookie_251 rfl ?_
  refine Vw.getI (pc := 252) (k := 35) (f := 483) K cls7 rfl rfl u_6_52 g1 dX9_fillsCookie_252 ?_
  refine Vw.bipush (pc := 255) (v := (16 : Int32)) K (by decide) dX9_fillsCookie_255 ?_
  refine Vw.icmp_gt (pc := 257) (tgt := 307) K dX9_fillsCookie_257 (by decide) (fun c6 => ?_) (fun c6 => ?_)
  · have h := wpos c6 h
    exact Vw.vretE (pc := 307) K (Option.some.inj h) E (by decide) (by decide) dX9_fillsCookie_307
  · have h := wneg c6 h
    refine Vw.aload_n (pc := 260) (x := x0) K dX9_fillsCookie_260 rfl ?_
    refine Vw.getI (pc := 261) (k := 37) (f := 485) K cls7 rfl rfl u_6_54 g1 dX9_fillsCookie_261 ?_
    refine Vw.bipush (pc := 264) (v := (32 : Int32)) K (by decide) dX9_fillsCookie_264 ?_
    refine Vw.icmp_gt (pc := 266) (tgt := 307) K dX9_fillsCookie_266 (by decide) (fun c7 => ?_) (fun c7 => ?_)
    · have h := wpos c7 h
      exact Vw.vretE (pc := 307) K (Option.some.inj h) E (by decide) (by decide) dX9_fillsCookie_307
    · have h := wneg c7 h
      refine Vw.aload_n (pc := 269) (x := x0) K dX9_fillsCookie_269 rfl ?_
      refine Vw.sipush (pc := 270) (v := (8400 : Int32)) K (by decide) dX9_fillsCookie_270 ?_
      refine Vw.aload_n (pc := 273) (x := x0) K dX9_fillsCookie_273 rfl ?_
      refine Vw.getI (pc := 274) (k := 34) (f := 482) K cls7 rfl rfl u_6_51 g1 dX9_fillsCookie_274 ?_
      refine Vw.iadd (pc := 277) K dX9_fillsCookie_277 ?_
      refine Vw.aload_n (pc := 278) (x := x0) K dX9_fillsCookie_278 rfl ?_
      refine Vw.getI (pc := 279) (k := 35) (f := 483) K cls7 rfl rfl u_6_52 g1 dX9_fillsCookie_279 ?_
      refine Vw.sipush (pc := 282) (v := (8614 : Int32)) K (by decide) dX9_fillsCookie_282 ?_
      obtain ⟨A9, e8, h⟩ := wbd h
      refine Vw.cV0 (pc := 285) (c' := 0) (n' := 0) K (s_X9_copies K.tr e8) cal_X9_copies cls7 u_6_170 g1 rfl ⟨by decide, by decide⟩ ⟨by decide, by decide⟩ rfl (Nat.le_of_ble_eq_true rfl) dX9_fillsCookie_285 rfl rfl ?_
      refine Vw.aload_n (pc := 288) (x := x0) K dX9_fillsCookie_288 rfl ?_
      refine Vw.sipush (pc := 289) (v := (8400 : Int32)) K (by decide) dX9_fillsCookie_289 ?_
      refine Vw.aload_n (pc := 292) (x := x0) K dX9_fillsCookie_292 rfl ?_
      obtain ⟨g10, h⟩ := wgd h
      refine Vw.getI (pc := 293) (k := 36) (f := 484) K cls7 rfl rfl u_6_53 g10 dX9_fillsCookie_293 ?_
      refine Vw.iadd (pc := 296) K dX9_fillsCookie_296 ?_
      refine Vw.aload_n (pc := 297) (x := x0) K dX9_fillsCookie_297 rfl ?_
      refine Vw.getI (pc := 298) (k := 37) (f := 485) K cls7 rfl rfl u_6_54 g10 dX9_fillsCookie_298 ?_
      refine Vw.sipush (pc := 301) (v := (8630 : Int32)) K (by decide) dX9_fillsCookie_301 ?_
      obtain ⟨A12, e11, h⟩ := wbd h
      refine Vw.cV0 (pc := 304) (c' := 0) (n' := 0) K (s_X9_copies K.tr e11) cal_X9_copies cls7 u_6_170 g10 rfl ⟨by decide, by decide⟩ ⟨by decide, by decide⟩ rfl (Nat.le_of_ble_eq_true rfl) dX9_fillsCookie_304 rfl rfl ?_
      exact Vw.vretE (pc := 307) K (Option.some.inj h) E (by decide) (by decide) dX9_fillsCookie_307
def k_X9_fillsCookie_219  (A : Hp) (x0 : Nat) (t0 : Nat) (t1 : Int32) (t2 : Int32) : Option (Hp) := if (hsh A t0).1 = 8 then ((f_X9_copies A t0 t1 t2 (8692 : Int32)).bind fun A15 => k_X9_fillsCookie_225 A15 x0) else none
set_option maxRecDepth 100000 in
theorem s_X9_fillsCookie_219 {κ : KT} {B : Hp} {A : Hp} {x0 : Nat} {t0 : Nat} {t1 : Int32} {t2 : Int32}  (K : Cx κ cX9_fillsCookie 3 RX9 4 98 0 0) (E : Ed κ none "fillsCookie" (.inl none) B 0 0)  (h : k_X9_fillsCookie_219  A x0 t0 t1 t2 = some B) : Vw κ A 0 0 219 [(0, .inr (.inr x0))] [.inl t2, .inl t1, .inr (.inr t0)] := by
  unfold k_X9_fillsCookie_219 at h
  refine Vw.sipush (pc := 219) (v := (8692 : Int32)) K (by decide) dX9_fillsCookie_219 ?_
  obtain ⟨g13, h⟩ := wgd h
  obtain ⟨A15, e14, h⟩ := wbd h
  refine Vw.cV0 (pc := 222) (c' := 0) (n' := 0) K (s_X9_copies K.tr e14) cal_X9_copies cls7 u_6_170 g13 rfl ⟨by decide, by decide⟩ ⟨by decide, by decide⟩ rfl (Nat.le_of_ble_eq_true rfl) dX9_fillsCookie_222 rfl rfl ?_
  exact Vw.loc rfl (s_X9_fillsCookie_225 K E  h)
def k_X9_fillsCookie_205  (A : Hp) (x0 : Nat) (x2 : Int32) (t0 : Nat) (t1 : Int32) (t2 : Int64) : Option (Hp) := if (hsh A t0).1 = 11 then if wix t1 (hsh A t0).2 then (if x2 = (0 : Int32) then k_X9_fillsCookie_219 (hsL A 1035 t0 t1.toNatClampNeg t2) x0 x0 (134 : Int32) (1 : Int32) else k_X9_fillsCookie_219 (hsL A 1035 t0 t1.toNatClampNeg t2) x0 x0 (134 : Int32) x2) else none else none
set_option maxRecDepth 100000 in
theorem s_X9_fillsCookie_205 {κ : KT} {B : Hp} {A : Hp} {x0 : Nat} {x2 : Int32} {t0 : Nat} {t1 : Int32} {t2 : Int64}  (K : Cx κ cX9_fillsCookie 3 RX9 4 98 0 0) (E : Ed κ none "fillsCookie" (.inl none) B 0 0)  (h : k_X9_fillsCookie_205  A x0 x2 t0 t1 t2 = some B) : Vw κ A 0 0 205 [(0, .inr (.inr x0)), (2, .inl x2)] [.inr (.inl t2), .inl t1, .inr (.inr t0)] := by
  unfold k_X9_fillsCookie_205 at h
  obtain ⟨g16, h⟩ := wgd h
  obtain ⟨g17, h⟩ := wgd h
  refine Vw.lastore (pc := 205) K g16 g17 dX9_fillsCookie_205 ?_
  refine Vw.aload_n (pc := 206) (x := x0) K dX9_fillsCookie_206 rfl ?_
  refine Vw.sipush (pc := 207) (v := (134 : Int32)) K (by decide) dX9_fillsCookie_207 ?_
  refine Vw.iload_n (pc := 210) (x := x2) K dX9_fillsCookie_210 rfl ?_
  refine Vw.if_ne (pc := 211) (tgt := 218) K dX9_fillsCookie_211 (by decide) (fun c18 => ?_) (fun c18 => ?_)
  · have h := wneg c18 h
    refine Vw.iload_n (pc := 218) (x := x2) K dX9_fillsCookie_218 rfl ?_
    exact Vw.loc rfl (s_X9_fillsCookie_219 K E  h)
  · have h := wpos c18 h
    refine Vw.iconst (pc := 214) (v := (1 : Int32)) K (by decide) dX9_fillsCookie_214 ?_
    refine Vw.goto (pc := 215) (tgt := 219) K dX9_fillsCookie_215 (by decide) ?_
    exact Vw.loc rfl (s_X9_fillsCookie_219 K E  h)
def k_X9_fillsCookie_165s  (x0 : Nat)  (rec165 : Hp → Int32 → Option (Hp)) (A : Hp) (x2 : Int32) : Option (Hp) := if (hsh A x0).1 = 8 then if (hsh A (hgR A 448 x0 0)).1 = 11 then if wix ((134 : Int32) + x2) (hsh A (hgR A 448 x0 0)).2 then (if (hgL A 1035 (hgR A 448 x0 0) ((134 : Int32) + x2).toNatClampNeg) = (47 : Int64) then (if x2 = (0 : Int32) then k_X9_fillsCookie_205 A x0 x2 (hgR A 448 x0 0) (8603 : Int32) (1 : Int64) else k_X9_fillsCookie_205 A x0 x2 (hgR A 448 x0 0) (8603 : Int32) x2.toInt64) else rec165 A (x2 + (-1 : Int32))) else none else none else none
def k_X9_fillsCookie_165  (x0 : Nat)  : Nat → Hp → Int32 → Option (Hp)
  | 0 => fun _ _ => none
  | fu + 1 => k_X9_fillsCookie_165s x0  (k_X9_fillsCookie_165 x0  fu)
set_option maxRecDepth 100000 in
theorem s_X9_fillsCookie_165 {κ : KT} {B : Hp}  {x0 : Nat}  (K : Cx κ cX9_fillsCookie 3 RX9 4 98 0 0) (E : Ed κ none "fillsCookie" (.inl none) B 0 0)  : ∀ (fu : Nat) (A : Hp) (x2 : Int32),  k_X9_fillsCookie_165 x0  fu A x2 = some B → Vw κ A 0 0 165 [(0, .inr (.inr x0)), (2, .inl x2)] [] := by
  intro fu
  induction fu with
  | zero => intro A x2 h; cases h
  | succ fu hr165 =>
    intro A x2 h
    have h : k_X9_fillsCookie_165s x0  (k_X9_fillsCookie_165 x0  fu) A x2 = some B := h
    unfold k_X9_fillsCookie_165s at h
    refine Vw.aload_n (pc := 165) (x := x0) K dX9_fillsCookie_165 rfl ?_
    obtain ⟨g19, h⟩ := wgd h
    refine Vw.getR (pc := 166) (k := 0) (f := 448) K cls7 rfl rfl u_6_17 g19 dX9_fillsCookie_166 ?_
    refine Vw.sipush (pc := 169) (v := (134 : Int32)) K (by decide) dX9_fillsCookie_169 ?_
    refine Vw.iload_n (pc := 172) (x := x2) K dX9_fillsCookie_172 rfl ?_
    refine Vw.iadd (pc := 173) K dX9_fillsCookie_173 ?_
    obtain ⟨g20, h⟩ := wgd h
    obtain ⟨g21, h⟩ := wgd h
    refine Vw.laload (pc := 174) K g20 g21 dX9_fillsCookie_174 ?_
    refine Vw.ldc2 (pc := 175) (v := (47 : Int64)) K u_6_168 dX9_fillsCookie_175 ?_
    refine Vw.lcmp_eq (pc := 178) (tgt := 188) K dX9_fillsCookie_178 dX9_fillsCookie_179 (by decide) (fun c22 => ?_) (fun c22 => ?_)
    · have h := wpos c22 h
      refine Vw.aload_n (pc := 188) (x := x0) K dX9_fillsCookie_188 rfl ?_
      refine Vw.getR (pc := 189) (k := 0) (f := 448) K cls7 rfl rfl u_6_17 g19 dX9_fillsCookie_189 ?_
      refine Vw.sipush (pc := 192) (v := (8603 : Int32)) K (by decide) dX9_fillsCookie_192 ?_
      refine Vw.iload_n (pc := 195) (x := x2) K dX9_fillsCookie_195 rfl ?_
      refine Vw.if_ne (pc := 196) (tgt := 203) K dX9_fillsCookie_196 (by decide) (fun c23 => ?_) (fun c23 => ?_)
      · have h := wneg c23 h
        refine Vw.iload_n (pc := 203) (x := x2) K dX9_fillsCookie_203 rfl ?_
        refine Vw.i2l (pc := 204) K dX9_fillsCookie_204 ?_
        exact Vw.loc rfl (s_X9_fillsCookie_205 K E  h)
      · have h := wpos c23 h
        refine Vw.lconst (pc := 199) (v := (1 : Int64)) K (by decide) dX9_fillsCookie_199 ?_
        refine Vw.goto (pc := 200) (tgt := 205) K dX9_fillsCookie_200 (by decide) ?_
        exact Vw.loc rfl (s_X9_fillsCookie_205 K E  h)
    · have h := wneg c22 h
      refine Vw.iinc (pc := 182) (x := x2) (v := (-1 : Int32)) K dX9_fillsCookie_182 rfl (by decide) (by decide) ?_
      refine Vw.goto (pc := 185) (tgt := 165) K dX9_fillsCookie_185 (by decide) ?_
      exact Vw.loc rfl (hr165 _ _ h)
def k_X9_fillsCookie_112  (A : Hp) (x0 : Nat)  : Option (Hp) := if (hsh A x0).1 = 8 then (if (hgI A 478 x0 0) = (0 : Int32) then if (hsh A (hgR A 448 x0 0)).1 = 11 then if wix (103 : Int32) (hsh A (hgR A 448 x0 0)).2 then k_X9_fillsCookie_165 x0 FU A (((hgL A 1035 (hgR A 448 x0 0) (103 : Int32).toNatClampNeg).toInt32) - (1 : Int32)) else none else none else if (hsh A (hgR A 448 x0 0)).1 = 11 then if wix (8603 : Int32) (hsh A (hgR A 448 x0 0)).2 then ((f_X9_copies (hsL A 1035 (hgR A 448 x0 0) (8603 : Int32).toNatClampNeg ((hgI A 480 x0 0).toInt64)) x0 ((8400 : Int32) + (hgI (hsL A 1035 (hgR A 448 x0 0) (8603 : Int32).toNatClampNeg ((hgI A 480 x0 0).toInt64)) 479 x0 0)) (hgI (hsL A 1035 (hgR A 448 x0 0) (8603 : Int32).toNatClampNeg ((hgI A 480 x0 0).toInt64)) 480 x0 0) (8692 : Int32)).bind fun A31 => k_X9_fillsCookie_225 A31 x0) else none else none) else none
set_option maxRecDepth 100000 in
theorem s_X9_fillsCookie_112 {κ : KT} {B : Hp} {A : Hp} {x0 : Nat}   (K : Cx κ cX9_fillsCookie 3 RX9 4 98 0 0) (E : Ed κ none "fillsCookie" (.inl none) B 0 0)  (h : k_X9_fillsCookie_112  A x0  = some B) : Vw κ A 0 0 112 [(0, .inr (.inr x0))] [] := by
  unfold k_X9_fillsCookie_112 at h
  refine Vw.aload_n (pc := 112) (x := x0) K dX9_fillsCookie_112 rfl ?_
  obtain ⟨g24, h⟩ := wgd h
  refine Vw.getI (pc := 113) (k := 30) (f := 478) K cls7 rfl rfl u_6_47 g24 dX9_fillsCookie_113 ?_
  refine Vw.if_eq (pc := 116) (tgt := 154) K dX9_fillsCookie_116 (by decide) (fun c25 => ?_) (fun c25 => ?_)
  · have h := wpos c25 h
    refine Vw.aload_n (pc := 154) (x := x0) K dX9_fillsCookie_154 rfl ?_
    refine Vw.getR (pc := 155) (k := 0) (f := 448) K cls7 rfl rfl u_6_17 g24 dX9_fillsCookie_155 ?_
    refine Vw.bipush (pc := 158) (v := (103 : Int32)) K (by decide) dX9_fillsCookie_158 ?_
    obtain ⟨g26, h⟩ := wgd h
    obtain ⟨g27, h⟩ := wgd h
    refine Vw.laload (pc := 160) K g26 g27 dX9_fillsCookie_160 ?_
    refine Vw.l2i (pc := 161) K dX9_fillsCookie_161 ?_
    refine Vw.iconst (pc := 162) (v := (1 : Int32)) K (by decide) dX9_fillsCookie_162 ?_
    refine Vw.isub (pc := 163) K dX9_fillsCookie_163 ?_
    refine Vw.istore_n (pc := 164) K dX9_fillsCookie_164 (by decide) ?_
    exact Vw.loc rfl (s_X9_fillsCookie_165 K E  _ _ _ h)
  · have h := wneg c25 h
    refine Vw.aload_n (pc := 119) (x := x0) K dX9_fillsCookie_119 rfl ?_
    refine Vw.getR (pc := 120) (k := 0) (f := 448) K cls7 rfl rfl u_6_17 g24 dX9_fillsCookie_120 ?_
    refine Vw.sipush (pc := 123) (v := (8603 : Int32)) K (by decide) dX9_fillsCookie_123 ?_
    refine Vw.aload_n (pc := 126) (x := x0) K dX9_fillsCookie_126 rfl ?_
    refine Vw.getI (pc := 127) (k := 32) (f := 480) K cls7 rfl rfl u_6_49 g24 dX9_fillsCookie_127 ?_
    refine Vw.i2l (pc := 130) K dX9_fillsCookie_130 ?_
    obtain ⟨g28, h⟩ := wgd h
    obtain ⟨g29, h⟩ := wgd h
    refine Vw.lastore (pc := 131) K g28 g29 dX9_fillsCookie_131 ?_
    refine Vw.aload_n (pc := 132) (x := x0) K dX9_fillsCookie_132 rfl ?_
    refine Vw.sipush (pc := 133) (v := (8400 : Int32)) K (by decide) dX9_fillsCookie_133 ?_
    refine Vw.aload_n (pc := 136) (x := x0) K dX9_fillsCookie_136 rfl ?_
    refine Vw.getI (pc := 137) (k := 31) (f := 479) K cls7 rfl rfl u_6_48 g24 dX9_fillsCookie_137 ?_
    refine Vw.iadd (pc := 140) K dX9_fillsCookie_140 ?_
    refine Vw.aload_n (pc := 141) (x := x0) K dX9_fillsCookie_141 rfl ?_
    refine Vw.getI (pc := 142) (k := 32) (f := 480) K cls7 rfl rfl u_6_49 g24 dX9_fillsCookie_142 ?_
    refine Vw.sipush (pc := 145) (v := (8692 : Int32)) K (by decide) dX9_fillsCookie_145 ?_
    obtain ⟨A31, e30, h⟩ := wbd h
    refine Vw.cV0 (pc := 148) (c' := 0) (n' := 0) K (s_X9_copies K.tr e30) cal_X9_copies cls7 u_6_170 g24 rfl ⟨by decide, by decide⟩ ⟨by decide, by decide⟩ rfl (Nat.le_of_ble_eq_true rfl) dX9_fillsCookie_148 rfl rfl ?_
    refine Vw.goto (pc := 151) (tgt := 225) K dX9_fillsCookie_151 (by decide) ?_
    exact Vw.loc rfl (s_X9_fillsCookie_225 K E  h)
def k_X9_fillsCookie_68  (A : Hp) (x0 : Nat) (x1 : Int32) (t0 : Nat) (t1 : Int32) (t2 : Int64) : Option (Hp) := if (hsh A t0).1 = 11 then if wix t1 (hsh A t0).2 then (if x1 = (0 : Int32) then if (hsh (hsL A 1035 t0 t1.toNatClampNeg t2) x0).1 = 8 then ((f_X9_hostLong (hsL A 1035 t0 t1.toNatClampNeg t2) x0).bind fun v41 => ((f_X9_copies (hsL A 1035 t0 t1.toNatClampNeg t2) x0 (104 : Int32) v41 (8662 : Int32)).bind fun A43 => k_X9_fillsCookie_112 A43 x0)) else none else if (hsh (hsL A 1035 t0 t1.toNatClampNeg t2) x0).1 = 8 then (if (30 : Int32) < (hgI (hsL A 1035 t0 t1.toNatClampNeg t2) 477 x0 0) then k_X9_fillsCookie_112 (hsL A 1035 t0 t1.toNatClampNeg t2) x0 else ((f_X9_copies (hsL A 1035 t0 t1.toNatClampNeg t2) x0 (8800 : Int32) (hgI (hsL A 1035 t0 t1.toNatClampNeg t2) 477 x0 0) (8662 : Int32)).bind fun A38 => k_X9_fillsCookie_112 A38 x0)) else none) else none else none
set_option maxRecDepth 100000 in
theorem s_X9_fillsCookie_68 {κ : KT} {B : Hp} {A : Hp} {x0 : Nat} {x1 : Int32} {t0 : Nat} {t1 : Int32} {t2 : Int64}  (K : Cx κ cX9_fillsCookie 3 RX9 4 98 0 0) (E : Ed κ none "fillsCookie" (.inl none) B 0 0)  (h : k_X9_fillsCookie_68  A x0 x1 t0 t1 t2 = some B) : Vw κ A 0 0 68 [(0, .inr (.inr x0)), (1, .inl x1)] [.inr (.inl t2), .inl t1, .inr (.inr t0)] := by
  unfold k_X9_fillsCookie_68 at h
  obtain ⟨g32, h⟩ := wgd h
  obtain ⟨g33, h⟩ := wgd h
  refine Vw.lastore (pc := 68) K g32 g33 dX9_fillsCookie_68 ?_
  refine Vw.iload_n (pc := 69) (x := x1) K dX9_fillsCookie_69 rfl ?_
  refine Vw.if_ne (pc := 70) (tgt := 89) K dX9_fillsCookie_70 (by decide) (fun c34 => ?_) (fun c34 => ?_)
  · have h := wneg c34 h
    refine Vw.aload_n (pc := 89) (x := x0) K dX9_fillsCookie_89 rfl ?_
    obtain ⟨g35, h⟩ := wgd h
    refine Vw.getI (pc := 90) (k := 29) (f := 477) K cls7 rfl rfl u_6_46 g35 dX9_fillsCookie_90 ?_
    refine Vw.bipush (pc := 93) (v := (30 : Int32)) K (by decide) dX9_fillsCookie_93 ?_
    refine Vw.icmp_gt (pc := 95) (tgt := 112) K dX9_fillsCookie_95 (by decide) (fun c36 => ?_) (fun c36 => ?_)
    · have h := wpos c36 h
      exact Vw.loc rfl (s_X9_fillsCookie_112 K E  h)
    · have h := wneg c36 h
      refine Vw.aload_n (pc := 98) (x := x0) K dX9_fillsCookie_98 rfl ?_
      refine Vw.sipush (pc := 99) (v := (8800 : Int32)) K (by decide) dX9_fillsCookie_99 ?_
      refine Vw.aload_n (pc := 102) (x := x0) K dX9_fillsCookie_102 rfl ?_
      refine Vw.getI (pc := 103) (k := 29) (f := 477) K cls7 rfl rfl u_6_46 g35 dX9_fillsCookie_103 ?_
      refine Vw.sipush (pc := 106) (v := (8662 : Int32)) K (by decide) dX9_fillsCookie_106 ?_
      obtain ⟨A38, e37, h⟩ := wbd h
      refine Vw.cV0 (pc := 109) (c' := 0) (n' := 0) K (s_X9_copies K.tr e37) cal_X9_copies cls7 u_6_170 g35 rfl ⟨by decide, by decide⟩ ⟨by decide, by decide⟩ rfl (Nat.le_of_ble_eq_true rfl) dX9_fillsCookie_109 rfl rfl ?_
      exact Vw.loc rfl (s_X9_fillsCookie_112 K E  h)
  · have h := wpos c34 h
    refine Vw.aload_n (pc := 73) (x := x0) K dX9_fillsCookie_73 rfl ?_
    refine Vw.bipush (pc := 74) (v := (104 : Int32)) K (by decide) dX9_fillsCookie_74 ?_
    refine Vw.aload_n (pc := 76) (x := x0) K dX9_fillsCookie_76 rfl ?_
    obtain ⟨g39, h⟩ := wgd h
    obtain ⟨v41, e40, h⟩ := wbd h
    refine Vw.cV1 (pc := 77) (v := .inl v41) (c' := 0) (n' := 0) K (s_X9_hostLong K.tr e40) cal_X9_hostLong cls7 u_6_218 g39 rfl ⟨by decide, by decide⟩ ⟨by decide, by decide⟩ rfl (Nat.le_of_ble_eq_true rfl) dX9_fillsCookie_77 rfl rfl ?_
    refine Vw.sipush (pc := 80) (v := (8662 : Int32)) K (by decide) dX9_fillsCookie_80 ?_
    obtain ⟨A43, e42, h⟩ := wbd h
    refine Vw.cV0 (pc := 83) (c' := 0) (n' := 0) K (s_X9_copies K.tr e42) cal_X9_copies cls7 u_6_170 g39 rfl ⟨by decide, by decide⟩ ⟨by decide, by decide⟩ rfl (Nat.le_of_ble_eq_true rfl) dX9_fillsCookie_83 rfl rfl ?_
    refine Vw.goto (pc := 86) (tgt := 112) K dX9_fillsCookie_86 (by decide) ?_
    exact Vw.loc rfl (s_X9_fillsCookie_112 K E  h)
def k_X9_fillsCookie_43  (A : Hp) (x0 : Nat) (x1 : Int32) (t0 : Nat) (t1 : Int32) (t2 : Int64) : Option (Hp) := if (hsh A t0).1 = 11 then if wix t1 (hsh A t0).2 then if (hsh (hsL A 1035 t0 t1.toNatClampNeg t2) x0).1 = 8 then (if x1 = (0 : Int32) then ((f_X9_hostLong (hsL A 1035 t0 t1.toNatClampNeg t2) x0).bind fun v49 => k_X9_fillsCookie_68 (hsL A 1035 t0 t1.toNatClampNeg t2) x0 x1 (hgR (hsL A 1035 t0 t1.toNatClampNeg t2) 448 x0 0) (8602 : Int32) v49.toInt64) else k_X9_fillsCookie_68 (hsL A 1035 t0 t1.toNatClampNeg t2) x0 x1 (hgR (hsL A 1035 t0 t1.toNatClampNeg t2) 448 x0 0) (8602 : Int32) ((hgI (hsL A 1035 t0 t1.toNatClampNeg t2) 477 x0 0).toInt64)) else none else none else none
set_option maxRecDepth 100000 in
theorem s_X9_fillsCookie_43 {κ : KT} {B : Hp} {A : Hp} {x0 : Nat} {x1 : Int32} {t0 : Nat} {t1 : Int32} {t2 : Int64}  (K : Cx κ cX9_fillsCookie 3 RX9 4 98 0 0) (E : Ed κ none "fillsCookie" (.inl none) B 0 0)  (h : k_X9_fillsCookie_43  A x0 x1 t0 t1 t2 = some B) : Vw κ A 0 0 43 [(0, .inr (.inr x0)), (1, .inl x1)] [.inr (.inl t2), .inl t1, .inr (.inr t0)] := by
  unfold k_X9_fillsCookie_43 at h
  obtain ⟨g44, h⟩ := wgd h
  obtain ⟨g45, h⟩ := wgd h
  refine Vw.lastore (pc := 43) K g44 g45 dX9_fillsCookie_43 ?_
  refine Vw.aload_n (pc := 44) (x := x0) K dX9_fillsCookie_44 rfl ?_
  obtain ⟨g46, h⟩ := wgd h
  refine Vw.getR (pc := 45) (k := 0) (f := 448) K cls7 rfl rfl u_6_17 g46 dX9_fillsCookie_45 ?_
  refine Vw.sipush (pc := 48) (v := (8602 : Int32)) K (by decide) dX9_fillsCookie_48 ?_
  refine Vw.iload_n (pc := 51) (x := x1) K dX9_fillsCookie_51 rfl ?_
  refine Vw.if_eq (pc := 52) (tgt := 63) K dX9_fillsCookie_52 (by decide) (fun c47 => ?_) (fun c47 => ?_)
  · have h := wpos c47 h
    refine Vw.aload_n (pc := 63) (x := x0) K dX9_fillsCookie_63 rfl ?_
    obtain ⟨v49, e48, h⟩ := wbd h
    refine Vw.cV1 (pc := 64) (v := .inl v49) (c' := 0) (n' := 0) K (s_X9_hostLong K.tr e48) cal_X9_hostLong cls7 u_6_218 g46 rfl ⟨by decide, by decide⟩ ⟨by decide, by decide⟩ rfl (Nat.le_of_ble_eq_true rfl) dX9_fillsCookie_64 rfl rfl ?_
    refine Vw.i2l (pc := 67) K dX9_fillsCookie_67 ?_
    exact Vw.loc rfl (s_X9_fillsCookie_68 K E  h)
  · have h := wneg c47 h
    refine Vw.aload_n (pc := 55) (x := x0) K dX9_fillsCookie_55 rfl ?_
    refine Vw.getI (pc := 56) (k := 29) (f := 477) K cls7 rfl rfl u_6_46 g46 dX9_fillsCookie_56 ?_
    refine Vw.i2l (pc := 59) K dX9_fillsCookie_59 ?_
    refine Vw.goto (pc := 60) (tgt := 68) K dX9_fillsCookie_60 (by decide) ?_
    exact Vw.loc rfl (s_X9_fillsCookie_68 K E  h)
def k_X9_fillsCookie_26  (A : Hp) (x0 : Nat) (t0 : Int32) : Option (Hp) := if (hsh A x0).1 = 8 then (if t0 = (0 : Int32) then k_X9_fillsCookie_43 A x0 t0 (hgR A 448 x0 0) (8608 : Int32) (1 : Int64) else k_X9_fillsCookie_43 A x0 t0 (hgR A 448 x0 0) (8608 : Int32) (0 : Int64)) else none
set_option maxRecDepth 100000 in
theorem s_X9_fillsCookie_26 {κ : KT} {B : Hp} {A : Hp} {x0 : Nat} {t0 : Int32}  (K : Cx κ cX9_fillsCookie 3 RX9 4 98 0 0) (E : Ed κ none "fillsCookie" (.inl none) B 0 0)  (h : k_X9_fillsCookie_26  A x0 t0 = some B) : Vw κ A 0 0 26 [(0, .inr (.inr x0))] [.inl t0] := by
  unfold k_X9_fillsCookie_26 at h
  refine Vw.istore_n (pc := 26) K dX9_fillsCookie_26 (by decide) ?_
  refine Vw.aload_n (pc := 27) (x := x0) K dX9_fillsCookie_27 rfl ?_
  obtain ⟨g50, h⟩ := wgd h
  refine Vw.getR (pc := 28) (k := 0) (f := 448) K cls7 rfl rfl u_6_17 g50 dX9_fillsCookie_28 ?_
  refine Vw.sipush (pc := 31) (v := (8608 : Int32)) K (by decide) dX9_fillsCookie_31 ?_
  refine Vw.iload_n (pc := 34) (x := t0) K dX9_fillsCookie_34 rfl ?_
  refine Vw.if_eq (pc := 35) (tgt := 42) K dX9_fillsCookie_35 (by decide) (fun c51 => ?_) (fun c51 => ?_)
  · have h := wpos c51 h
    refine Vw.lconst (pc := 42) (v := (1 : Int64)) K (by decide) dX9_fillsCookie_42 ?_
    exact Vw.loc rfl (s_X9_fillsCookie_43 K E  h)
  · have h := wneg c51 h
    refine Vw.lconst (pc := 38) (v := (0 : Int64)) K (by decide) dX9_fillsCookie_38 ?_
    refine Vw.goto (pc := 39) (tgt := 43) K dX9_fillsCookie_39 (by decide) ?_
    exact Vw.loc rfl (s_X9_fillsCookie_43 K E  h)
def k_X9_fillsCookie_25  (A : Hp) (x0 : Nat)  : Option (Hp) := k_X9_fillsCookie_26 A x0 (0 : Int32)
set_option maxRecDepth 100000 in
theorem s_X9_fillsCookie_25 {κ : KT} {B : Hp} {A : Hp} {x0 : Nat}   (K : Cx κ cX9_fillsCookie 3 RX9 4 98 0 0) (E : Ed κ none "fillsCookie" (.inl none) B 0 0)  (h : k_X9_fillsCookie_25  A x0  = some B) : Vw κ A 0 0 25 [(0, .inr (.inr x0))] [] := by
  unfold k_X9_fillsCookie_25 at h
  refine Vw.iconst (pc := 25) (v := (0 : Int32)) K (by decide) dX9_fillsCookie_25 ?_
  exact Vw.loc rfl (s_X9_fillsCookie_26 K E  h)
def f_X9_fillsCookie (A : Hp) (x0 : Nat) : Option (Hp) := if (hsh A x0).1 = 8 then (if (hgI A 476 x0 0) = (0 : Int32) then k_X9_fillsCookie_25 A x0 else ((f_X9_isPublic A x0 (8800 : Int32) (hgI A 477 x0 0)).bind fun v55 => (if v55 = (0 : Int32) then k_X9_fillsCookie_26 A x0 (1 : Int32) else k_X9_fillsCookie_25 A x0))) else none
set_option maxRecDepth 100000 in
theorem s_X9_fillsCookie {l : Launch} {g : GT} (hl : l.stackTraces = false) {A : Hp} {x0 : Nat} {B : Hp} (h : f_X9_fillsCookie A x0 = some B) : MetV l g yX9_fillsCookie (.code yX9_fillsCookie cX9_fillsCookie 3 none) [.inr (.inr x0)] A (.inl none) B 4 98 0 0 := by
  refine MetV.ofV hl (by decide +kernel) (Nat.le_of_ble_eq_true rfl) (fun κ K E => ?_)
  have K : Cx κ cX9_fillsCookie 3 RX9 4 98 0 0 := K
  have E : Ed κ none "fillsCookie" (.inl none) B 0 0 := E
  unfold f_X9_fillsCookie at h
  change Vw κ A 0 0 0 [(0, .inr (.inr x0))] []
  refine Vw.aload_n (pc := 0) (x := x0) K dX9_fillsCookie_0 rfl ?_
  obtain ⟨g52, h⟩ := wgd h
  refine Vw.getI (pc := 1) (k := 28) (f := 476) K cls7 rfl rfl u_6_45 g52 dX9_fillsCookie_1 ?_
  refine Vw.if_eq (pc := 4) (tgt := 25) K dX9_fillsCookie_4 (by decide) (fun c53 => ?_) (fun c53 => ?_)
  · have h := wpos c53 h
    exact Vw.loc rfl (s_X9_fillsCookie_25 K E  h)
  · have h := wneg c53 h
    refine Vw.aload_n (pc := 7) (x := x0) K dX9_fillsCookie_7 rfl ?_
    refine Vw.sipush (pc := 8) (v := (8800 : Int32)) K (by decide) dX9_fillsCookie_8 ?_
    refine Vw.aload_n (pc := 11) (x := x0) K dX9_fillsCookie_11 rfl ?_
    refine Vw.getI (pc := 12) (k := 29) (f := 477) K cls7 rfl rfl u_6_46 g52 dX9_fillsCookie_12 ?_
    obtain ⟨v55, e54, h⟩ := wbd h
    refine Vw.cV1 (pc := 15) (v := .inl v55) (c' := 0) (n' := 0) K (s_X9_isPublic K.tr e54) cal_X9_isPublic cls7 u_7_90 g52 rfl ⟨by decide, by decide⟩ ⟨by decide, by decide⟩ rfl (Nat.le_of_ble_eq_true rfl) dX9_fillsCookie_15 rfl rfl ?_
    refine Vw.if_ne (pc := 18) (tgt := 25) K dX9_fillsCookie_18 (by decide) (fun c56 => ?_) (fun c56 => ?_)
    · have h := wneg c56 h
      exact Vw.loc rfl (s_X9_fillsCookie_25 K E  h)
    · have h := wpos c56 h
      refine Vw.iconst (pc := 21) (v := (1 : Int32)) K (by decide) dX9_fillsCookie_21 ?_
      refine Vw.goto (pc := 22) (tgt := 26) K dX9_fillsCookie_22 (by decide) ?_
      exact Vw.loc rfl (s_X9_fillsCookie_26 K E  h)
theorem cal_X9_fillsCookie : wCalV RX9 yX9_fillsCookie (.code yX9_fillsCookie cX9_fillsCookie 3 none) 0 := ⟨by decide +kernel, u_7_88, us_4_14, u_1_9, u_7_89⟩
def k_X9_expires_104  (A : Hp) (x0 : Nat) (t0 : Nat) (t1 : Int32) (t2 : Int64) : Option (Int32 × Hp) := if (hsh A t0).1 = 11 then if wix t1 (hsh A t0).2 then if (hsh (hsL A 1035 t0 t1.toNatClampNeg t2) x0).1 = 8 then (if (hgI (hsL A 1035 t0 t1.toNatClampNeg t2) 474 x0 0) = (0 : Int32) then some ((0 : Int32), (hsL A 1035 t0 t1.toNatClampNeg t2)) else if (hsh (hsL A 1035 t0 t1.toNatClampNeg t2) (hgR (hsL A 1035 t0 t1.toNatClampNeg t2) 448 x0 0)).1 = 11 then if wix (0 : Int32) (hsh (hsL A 1035 t0 t1.toNatClampNeg t2) (hgR (hsL A 1035 t0 t1.toNatClampNeg t2) 448 x0 0)).2 then (if (hgL (hsL A 1035 t0 t1.toNatClampNeg t2) 1035 (hgR (hsL A 1035 t0 t1.toNatClampNeg t2) 448 x0 0) (0 : Int32).toNatClampNeg) < (hgL (hsL A 1035 t0 t1.toNatClampNeg t2) 475 x0 0) then some ((0 : Int32), (hsL A 1035 t0 t1.toNatClampNeg t2)) else some ((1 : Int32), (hsL A 1035 t0 t1.toNatClampNeg t2))) else none else none) else none else none else none
set_option maxRecDepth 100000 in
theorem s_X9_expires_104 {κ : KT} {r : Int32} {B : Hp} {A : Hp} {x0 : Nat} {t0 : Nat} {t1 : Int32} {t2 : Int64}  (K : Cx κ cX9_expires 3 RX9 0 0 0 0) (E : Ed κ (some .boolean) "expires" (.inl (some (.inl r))) B 0 0)  (h : k_X9_expires_104  A x0 t0 t1 t2 = some (r, B)) : Vw κ A 0 0 104 [(0, .inr (.inr x0))] [.inr (.inl t2), .inl t1, .inr (.inr t0)] := by
  unfold k_X9_expires_104 at h
  obtain ⟨g1, h⟩ := wgd h
  obtain ⟨g2, h⟩ := wgd h
  refine Vw.lastore (pc := 104) K g1 g2 dX9_expires_104 ?_
  refine Vw.aload_n (pc := 105) (x := x0) K dX9_expires_105 rfl ?_
  obtain ⟨g3, h⟩ := wgd h
  refine Vw.getI (pc := 106) (k := 26) (f := 474) K cls7 rfl rfl u_6_43 g3 dX9_expires_106 ?_
  refine Vw.if_eq (pc := 109) (tgt := 130) K dX9_expires_109 (by decide) (fun c4 => ?_) (fun c4 => ?_)
  · have h := wpos c4 h
    refine Vw.iconst (pc := 130) (v := (0 : Int32)) K (by decide) dX9_expires_130 ?_
    exact Vw.zretH (pc := 131) K (Or.inl rfl) h E (by decide) (by decide) dX9_expires_131
  · have h := wneg c4 h
    refine Vw.aload_n (pc := 112) (x := x0) K dX9_expires_112 rfl ?_
    refine Vw.getL (pc := 113) (k := 27) (f := 475) K cls7 rfl rfl u_6_44 g3 dX9_expires_113 ?_
    refine Vw.aload_n (pc := 116) (x := x0) K dX9_expires_116 rfl ?_
    refine Vw.getR (pc := 117) (k := 0) (f := 448) K cls7 rfl rfl u_6_17 g3 dX9_expires_117 ?_
    refine Vw.iconst (pc := 120) (v := (0 : Int32)) K (by decide) dX9_expires_120 ?_
    obtain ⟨g5, h⟩ := wgd h
    obtain ⟨g6, h⟩ := wgd h
    refine Vw.laload (pc := 121) K g5 g6 dX9_expires_121 ?_
    refine Vw.lcmp_gt (pc := 122) (tgt := 130) K dX9_expires_122 dX9_expires_123 (by decide) (fun c7 => ?_) (fun c7 => ?_)
    · have h := wpos c7 h
      refine Vw.iconst (pc := 130) (v := (0 : Int32)) K (by decide) dX9_expires_130 ?_
      exact Vw.zretH (pc := 131) K (Or.inl rfl) h E (by decide) (by decide) dX9_expires_131
    · have h := wneg c7 h
      refine Vw.iconst (pc := 126) (v := (1 : Int32)) K (by decide) dX9_expires_126 ?_
      refine Vw.goto (pc := 127) (tgt := 131) K dX9_expires_127 (by decide) ?_
      exact Vw.zretH (pc := 131) K (Or.inr rfl) h E (by decide) (by decide) dX9_expires_131
def k_X9_expires_51  (A : Hp) (x0 : Nat) (t0 : Nat) (t1 : Int32) (t2 : Int64) : Option (Int32 × Hp) := if (hsh A t0).1 = 11 then if wix t1 (hsh A t0).2 then if (hsh (hsL A 1035 t0 t1.toNatClampNeg t2) x0).1 = 8 then (if (0 : Int64) < (hgL (hsL A 1035 t0 t1.toNatClampNeg t2) 473 x0 0) then some ((0 : Int32), (hsL A 1035 t0 t1.toNatClampNeg t2)) else some ((1 : Int32), (hsL A 1035 t0 t1.toNatClampNeg t2))) else none else none else none
set_option maxRecDepth 100000 in
theorem s_X9_expires_51 {κ : KT} {r : Int32} {B : Hp} {A : Hp} {x0 : Nat} {t0 : Nat} {t1 : Int32} {t2 : Int64}  (K : Cx κ cX9_expires 3 RX9 0 0 0 0) (E : Ed κ (some .boolean) "expires" (.inl (some (.inl r))) B 0 0)  (h : k_X9_expires_51  A x0 t0 t1 t2 = some (r, B)) : Vw κ A 0 0 51 [(0, .inr (.inr x0))] [.inr (.inl t2), .inl t1, .inr (.inr t0)] := by
  unfold k_X9_expires_51 at h
  obtain ⟨g8, h⟩ := wgd h
  obtain ⟨g9, h⟩ := wgd h
  refine Vw.lastore (pc := 51) K g8 g9 dX9_expires_51 ?_
  refine Vw.aload_n (pc := 52) (x := x0) K dX9_expires_52 rfl ?_
  obtain ⟨g10, h⟩ := wgd h
  refine Vw.getL (pc := 53) (k := 25) (f := 473) K cls7 rfl rfl u_6_42 g10 dX9_expires_53 ?_
  refine Vw.lconst (pc := 56) (v := (0 : Int64)) K (by decide) dX9_expires_56 ?_
  refine Vw.lcmp_gt (pc := 57) (tgt := 65) K dX9_expires_57 dX9_expires_58 (by decide) (fun c11 => ?_) (fun c11 => ?_)
  · have h := wpos c11 h
    refine Vw.iconst (pc := 65) (v := (0 : Int32)) K (by decide) dX9_expires_65 ?_
    exact Vw.zretH (pc := 66) K (Or.inl rfl) h E (by decide) (by decide) dX9_expires_66
  · have h := wneg c11 h
    refine Vw.iconst (pc := 61) (v := (1 : Int32)) K (by decide) dX9_expires_61 ?_
    refine Vw.goto (pc := 62) (tgt := 66) K dX9_expires_62 (by decide) ?_
    exact Vw.zretH (pc := 66) K (Or.inr rfl) h E (by decide) (by decide) dX9_expires_66
def f_X9_expires (A : Hp) (x0 : Nat) : Option (Int32 × Hp) := if (hsh A x0).1 = 8 then if (hsh A (hgR A 448 x0 0)).1 = 11 then if wix (0 : Int32) (hsh A (hgR A 448 x0 0)).2 then (if (hgI A 472 x0 0) = (0 : Int32) then (if (hgI A 474 x0 0) = (0 : Int32) then k_X9_expires_104 A x0 (hgR A 448 x0 0) (8604 : Int32) (-1 : Int64) else (if (hgL A 475 x0 0) ≤ ((hgL A 1035 (hgR A 448 x0 0) (0 : Int32).toNatClampNeg) + (34560000 : Int64)) then k_X9_expires_104 A x0 (hgR A 448 x0 0) (8604 : Int32) (hgL A 475 x0 0) else k_X9_expires_104 A x0 (hgR A 448 x0 0) (8604 : Int32) ((hgL A 1035 (hgR A 448 x0 0) (0 : Int32).toNatClampNeg) + (34560000 : Int64)))) else (if (hgL A 473 x0 0) ≤ (34560000 : Int64) then k_X9_expires_51 A x0 (hgR A 448 x0 0) (8604 : Int32) ((hgL A 1035 (hgR A 448 x0 0) (0 : Int32).toNatClampNeg) + (hgL A 473 x0 0)) else k_X9_expires_51 A x0 (hgR A 448 x0 0) (8604 : Int32) ((hgL A 1035 (hgR A 448 x0 0) (0 : Int32).toNatClampNeg) + (34560000 : Int64)))) else none else none else none
set_option maxRecDepth 100000 in
theorem s_X9_expires {l : Launch} {g : GT} (hl : l.stackTraces = false) {A : Hp} {x0 : Nat} {r : Int32} {B : Hp} (h : f_X9_expires A x0 = some (r, B)) : MetV l g yX9_expires (.code yX9_expires cX9_expires 3 (some .boolean)) [.inr (.inr x0)] A (.inl (some (.inl r))) B 0 0 0 0 := by
  refine MetV.ofV hl (by decide +kernel) (Nat.le_of_ble_eq_true rfl) (fun κ K E => ?_)
  have K : Cx κ cX9_expires 3 RX9 0 0 0 0 := K
  have E : Ed κ (some .boolean) "expires" (.inl (some (.inl r))) B 0 0 := E
  unfold f_X9_expires at h
  change Vw κ A 0 0 0 [(0, .inr (.inr x0))] []
  refine Vw.aload_n (pc := 0) (x := x0) K dX9_expires_0 rfl ?_
  obtain ⟨g12, h⟩ := wgd h
  refine Vw.getR (pc := 1) (k := 0) (f := 448) K cls7 rfl rfl u_6_17 g12 dX9_expires_1 ?_
  refine Vw.iconst (pc := 4) (v := (0 : Int32)) K (by decide) dX9_expires_4 ?_
  obtain ⟨g13, h⟩ := wgd h
  obtain ⟨g14, h⟩ := wgd h
  refine Vw.laload (pc := 5) K g13 g14 dX9_expires_5 ?_
  refine Vw.ldc2 (pc := 6) (v := (34560000 : Int64)) K u_7_133 dX9_expires_6 ?_
  refine Vw.ladd (pc := 9) K dX9_expires_9 ?_
  refine Vw.lstore_n (pc := 10) K dX9_expires_10 (by decide) ?_
  refine Vw.aload_n (pc := 11) (x := x0) K dX9_expires_11 rfl ?_
  refine Vw.getI (pc := 12) (k := 24) (f := 472) K cls7 rfl rfl u_6_41 g12 dX9_expires_12 ?_
  refine Vw.if_eq (pc := 15) (tgt := 67) K dX9_expires_15 (by decide) (fun c15 => ?_) (fun c15 => ?_)
  · have h := wpos c15 h
    refine Vw.aload_n (pc := 67) (x := x0) K dX9_expires_67 rfl ?_
    refine Vw.getR (pc := 68) (k := 0) (f := 448) K cls7 rfl rfl u_6_17 g12 dX9_expires_68 ?_
    refine Vw.sipush (pc := 71) (v := (8604 : Int32)) K (by decide) dX9_expires_71 ?_
    refine Vw.aload_n (pc := 74) (x := x0) K dX9_expires_74 rfl ?_
    refine Vw.getI (pc := 75) (k := 26) (f := 474) K cls7 rfl rfl u_6_43 g12 dX9_expires_75 ?_
    refine Vw.if_ne (pc := 78) (tgt := 87) K dX9_expires_78 (by decide) (fun c16 => ?_) (fun c16 => ?_)
    · have h := wneg c16 h
      refine Vw.aload_n (pc := 87) (x := x0) K dX9_expires_87 rfl ?_
      refine Vw.getL (pc := 88) (k := 27) (f := 475) K cls7 rfl rfl u_6_44 g12 dX9_expires_88 ?_
      refine Vw.lload_n (pc := 91) (x := ((hgL A 1035 (hgR A 448 x0 0) (0 : Int32).toNatClampNeg) + (34560000 : Int64))) K dX9_expires_91 rfl ?_
      refine Vw.lcmp_le (pc := 92) (tgt := 100) K dX9_expires_92 dX9_expires_93 (by decide) (fun c17 => ?_) (fun c17 => ?_)
      · have h := wpos c17 h
        refine Vw.aload_n (pc := 100) (x := x0) K dX9_expires_100 rfl ?_
        refine Vw.getL (pc := 101) (k := 27) (f := 475) K cls7 rfl rfl u_6_44 g12 dX9_expires_101 ?_
        exact Vw.loc rfl (s_X9_expires_104 K E  h)
      · have h := wneg c17 h
        refine Vw.lload_n (pc := 96) (x := ((hgL A 1035 (hgR A 448 x0 0) (0 : Int32).toNatClampNeg) + (34560000 : Int64))) K dX9_expires_96 rfl ?_
        refine Vw.goto (pc := 97) (tgt := 104) K dX9_expires_97 (by decide) ?_
        exact Vw.loc rfl (s_X9_expires_104 K E  h)
    · have h := wpos c16 h
      refine Vw.ldc2 (pc := 81) (v := (-1 : Int64)) K u_6_154 dX9_expires_81 ?_
      refine Vw.goto (pc := 84) (tgt := 104) K dX9_expires_84 (by decide) ?_
      exact Vw.loc rfl (s_X9_expires_104 K E  h)
  · have h := wneg c15 h
    refine Vw.aload_n (pc := 18) (x := x0) K dX9_expires_18 rfl ?_
    refine Vw.getR (pc := 19) (k := 0) (f := 448) K cls7 rfl rfl u_6_17 g12 dX9_expires_19 ?_
    refine Vw.sipush (pc := 22) (v := (8604 : Int32)) K (by decide) dX9_expires_22 ?_
    refine Vw.aload_n (pc := 25) (x := x0) K dX9_expires_25 rfl ?_
    refine Vw.getL (pc := 26) (k := 25) (f := 473) K cls7 rfl rfl u_6_42 g12 dX9_expires_26 ?_
    refine Vw.ldc2 (pc := 29) (v := (34560000 : Int64)) K u_7_133 dX9_expires_29 ?_
    refine Vw.lcmp_le (pc := 32) (tgt := 40) K dX9_expires_32 dX9_expires_33 (by decide) (fun c18 => ?_) (fun c18 => ?_)
    · have h := wpos c18 h
      refine Vw.aload_n (pc := 40) (x := x0) K dX9_expires_40 rfl ?_
      refine Vw.getR (pc := 41) (k := 0) (f := 448) K cls7 rfl rfl u_6_17 g12 dX9_expires_41 ?_
      refine Vw.iconst (pc := 44) (v := (0 : Int32)) K (by decide) dX9_expires_44 ?_
      refine Vw.laload (pc := 45) K g13 g14 dX9_expires_45 ?_
      refine Vw.aload_n (pc := 46) (x := x0) K dX9_expires_46 rfl ?_
      refine Vw.getL (pc := 47) (k := 25) (f := 473) K cls7 rfl rfl u_6_42 g12 dX9_expires_47 ?_
      refine Vw.ladd (pc := 50) K dX9_expires_50 ?_
      exact Vw.loc rfl (s_X9_expires_51 K E  h)
    · have h := wneg c18 h
      refine Vw.lload_n (pc := 36) (x := ((hgL A 1035 (hgR A 448 x0 0) (0 : Int32).toNatClampNeg) + (34560000 : Int64))) K dX9_expires_36 rfl ?_
      refine Vw.goto (pc := 37) (tgt := 51) K dX9_expires_37 (by decide) ?_
      exact Vw.loc rfl (s_X9_expires_51 K E  h)
theorem cal_X9_expires : wCalV RX9 yX9_expires (.code yX9_expires cX9_expires 3 (some .boolean)) 0 := ⟨by decide +kernel, u_7_131, us_5_8, u_1_9, u_7_132⟩
def f_X9_cookie (A : Hp) (x0 : Int32) : Option (Int32) := some ((2500 : Int32) + ((140 : Int32) * x0))
set_option maxRecDepth 100000 in
theorem s_X9_cookie {l : Launch} {g : GT} (hl : l.stackTraces = false) {A : Hp} {x0 : Int32} {r : Int32} (h : f_X9_cookie A x0 = some r) : MetV l g yX9_cookie (.code yX9_cookie cX9_cookie 1 (some .int)) [.inl x0] A (.inl (some (.inl r))) A 0 0 0 0 := by
  refine MetV.ofV hl (by decide +kernel) (Nat.le_of_ble_eq_true rfl) (fun κ K E => ?_)
  have K : Cx κ cX9_cookie 1 RX9 0 0 0 0 := K
  have E : Ed κ (some .int) "cookie" (.inl (some (.inl r))) A 0 0 := E
  unfold f_X9_cookie at h
  change Vw κ A 0 0 0 [(0, .inl x0)] []
  refine Vw.sipush (pc := 0) (v := (2500 : Int32)) K (by decide) dX9_cookie_0 ?_
  refine Vw.sipush (pc := 3) (v := (140 : Int32)) K (by decide) dX9_cookie_3 ?_
  refine Vw.iload_n (pc := 6) (x := x0) K dX9_cookie_6 rfl ?_
  refine Vw.imul (pc := 7) K dX9_cookie_7 ?_
  refine Vw.iadd (pc := 8) K dX9_cookie_8 ?_
  exact Vw.iretE (pc := 9) K (Option.some.inj h) rfl E (by decide) (by decide) dX9_cookie_9
theorem cal_X9_cookie : wCalS yX9_cookie (.code yX9_cookie cX9_cookie 1 (some .int)) 1 := ⟨by decide +kernel, u_7_103, u_1_9, u_7_104⟩
def f_X9_haveOneName (A : Hp) (x0 : Nat) (x1 : Int32) (x2 : Int32) : Option (Int32) := if (hsh A x0).1 = 8 then if (hsh A (hgR A 448 x0 0)).1 = 11 then if wix x1 (hsh A (hgR A 448 x0 0)).2 then if wix x2 (hsh A (hgR A 448 x0 0)).2 then ((f_X9_areLike A x0 (x1 + (14 : Int32)) ((hgL A 1035 (hgR A 448 x0 0) x1.toNatClampNeg).toInt32) (x2 + (14 : Int32)) ((hgL A 1035 (hgR A 448 x0 0) x2.toNatClampNeg).toInt32)).bind fun v6 => if wZ v6 then some v6 else none) else none else none else none else none
set_option maxRecDepth 100000 in
theorem s_X9_haveOneName {l : Launch} {g : GT} (hl : l.stackTraces = false) {A : Hp} {x0 : Nat} {x1 : Int32} {x2 : Int32} {r : Int32} (h : f_X9_haveOneName A x0 x1 x2 = some r) : MetV l g yX9_haveOneName (.code yX9_haveOneName cX9_haveOneName 3 (some .boolean)) [.inr (.inr x0), .inl x1, .inl x2] A (.inl (some (.inl r))) A 1 26 0 0 := by
  refine MetV.ofV hl (by decide +kernel) (Nat.le_of_ble_eq_true rfl) (fun κ K E => ?_)
  have K : Cx κ cX9_haveOneName 3 RX9 1 26 0 0 := K
  have E : Ed κ (some .boolean) "haveOneName" (.inl (some (.inl r))) A 0 0 := E
  unfold f_X9_haveOneName at h
  change Vw κ A 0 0 0 [(0, .inr (.inr x0)), (1, .inl x1), (2, .inl x2)] []
  refine Vw.aload_n (pc := 0) (x := x0) K dX9_haveOneName_0 rfl ?_
  refine Vw.iload_n (pc := 1) (x := x1) K dX9_haveOneName_1 rfl ?_
  refine Vw.bipush (pc := 2) (v := (14 : Int32)) K (by decide) dX9_haveOneName_2 ?_
  refine Vw.iadd (pc := 4) K dX9_haveOneName_4 ?_
  refine Vw.aload_n (pc := 5) (x := x0) K dX9_haveOneName_5 rfl ?_
  obtain ⟨g1, h⟩ := wgd h
  refine Vw.getR (pc := 6) (k := 0) (f := 448) K cls7 rfl rfl u_6_17 g1 dX9_haveOneName_6 ?_
  refine Vw.iload_n (pc := 9) (x := x1) K dX9_haveOneName_9 rfl ?_
  obtain ⟨g2, h⟩ := wgd h
  obtain ⟨g3, h⟩ := wgd h
  refine Vw.laload (pc := 10) K g2 g3 dX9_haveOneName_10 ?_
  refine Vw.l2i (pc := 11) K dX9_haveOneName_11 ?_
  refine Vw.iload_n (pc := 12) (x := x2) K dX9_haveOneName_12 rfl ?_
  refine Vw.bipush (pc := 13) (v := (14 : Int32)) K (by decide) dX9_haveOneName_13 ?_
  refine Vw.iadd (pc := 15) K dX9_haveOneName_15 ?_
  refine Vw.aload_n (pc := 16) (x := x0) K dX9_haveOneName_16 rfl ?_
  refine Vw.getR (pc := 17) (k := 0) (f := 448) K cls7 rfl rfl u_6_17 g1 dX9_haveOneName_17 ?_
  refine Vw.iload_n (pc := 20) (x := x2) K dX9_haveOneName_20 rfl ?_
  obtain ⟨g4, h⟩ := wgd h
  refine Vw.laload (pc := 21) K g2 g4 dX9_haveOneName_21 ?_
  refine Vw.l2i (pc := 22) K dX9_haveOneName_22 ?_
  obtain ⟨v6, e5, h⟩ := wbd h
  refine Vw.cV1 (pc := 23) (v := .inl v6) (c' := 0) (n' := 0) K (s_X9_areLike K.tr e5) cal_X9_areLike cls7 u_6_202 g1 rfl ⟨by decide, by decide⟩ ⟨by decide, by decide⟩ rfl (Nat.le_of_ble_eq_true rfl) dX9_haveOneName_23 rfl rfl ?_
  obtain ⟨g7, h⟩ := wgd h
  exact Vw.zretE (pc := 26) K g7 (Option.some.inj h) rfl E (by decide) (by decide) dX9_haveOneName_26
theorem cal_X9_haveOneName : wCalV RX9 yX9_haveOneName (.code yX9_haveOneName cX9_haveOneName 3 (some .boolean)) 2 := ⟨by decide +kernel, u_7_107, us_5_2, u_1_9, u_7_108⟩
def k_X9_areOne_36  (A : Hp) (x0 : Nat) (x1 : Int32) (x2 : Int32) (t0 : Int32) : Option (Int32) := (if t0 = (0 : Int32) then some (0 : Int32) else if (hsh A x0).1 = 8 then if (hsh A (hgR A 448 x0 0)).1 = 11 then if wix (x1 + (2 : Int32)) (hsh A (hgR A 448 x0 0)).2 then if wix (x2 + (2 : Int32)) (hsh A (hgR A 448 x0 0)).2 then ((f_X9_areLike A x0 (x1 + (62 : Int32)) ((hgL A 1035 (hgR A 448 x0 0) (x1 + (2 : Int32)).toNatClampNeg).toInt32) (x2 + (62 : Int32)) ((hgL A 1035 (hgR A 448 x0 0) (x2 + (2 : Int32)).toNatClampNeg).toInt32)).bind fun v7 => (if v7 = (0 : Int32) then some (0 : Int32) else if wix (x1 + (3 : Int32)) (hsh A (hgR A 448 x0 0)).2 then if wix (x2 + (3 : Int32)) (hsh A (hgR A 448 x0 0)).2 then ((f_X9_areLike A x0 (x1 + (92 : Int32)) ((hgL A 1035 (hgR A 448 x0 0) (x1 + (3 : Int32)).toNatClampNeg).toInt32) (x2 + (92 : Int32)) ((hgL A 1035 (hgR A 448 x0 0) (x2 + (3 : Int32)).toNatClampNeg).toInt32)).bind fun v12 => (if v12 = (0 : Int32) then some (0 : Int32) else some (1 : Int32))) else none else none)) else none else none else none else none)
set_option maxRecDepth 100000 in
theorem s_X9_areOne_36 {κ : KT} {r : Int32} {A : Hp} {x0 : Nat} {x1 : Int32} {x2 : Int32} {t0 : Int32}  (K : Cx κ cX9_areOne 4 RX9 2 48 0 0) (E : Ed κ (some .boolean) "areOne" (.inl (some (.inl r))) A 0 0)  (h : k_X9_areOne_36  A x0 x1 x2 t0 = some r) : Vw κ A 0 0 36 [(0, .inr (.inr x0)), (1, .inl x1), (2, .inl x2)] [.inl t0] := by
  unfold k_X9_areOne_36 at h
  refine Vw.istore_n (pc := 36) K dX9_areOne_36 (by decide) ?_
  refine Vw.iload_n (pc := 37) (x := t0) K dX9_areOne_37 rfl ?_
  refine Vw.if_eq (pc := 38) (tgt := 111) K dX9_areOne_38 (by decide) (fun c1 => ?_) (fun c1 => ?_)
  · have h := wpos c1 h
    refine Vw.iconst (pc := 111) (v := (0 : Int32)) K (by decide) dX9_areOne_111 ?_
    exact Vw.zretE (pc := 112) K (Or.inl rfl) (Option.some.inj h) rfl E (by decide) (by decide) dX9_areOne_112
  · have h := wneg c1 h
    refine Vw.aload_n (pc := 41) (x := x0) K dX9_areOne_41 rfl ?_
    refine Vw.iload_n (pc := 42) (x := x1) K dX9_areOne_42 rfl ?_
    refine Vw.bipush (pc := 43) (v := (62 : Int32)) K (by decide) dX9_areOne_43 ?_
    refine Vw.iadd (pc := 45) K dX9_areOne_45 ?_
    refine Vw.aload_n (pc := 46) (x := x0) K dX9_areOne_46 rfl ?_
    obtain ⟨g2, h⟩ := wgd h
    refine Vw.getR (pc := 47) (k := 0) (f := 448) K cls7 rfl rfl u_6_17 g2 dX9_areOne_47 ?_
    refine Vw.iload_n (pc := 50) (x := x1) K dX9_areOne_50 rfl ?_
    refine Vw.iconst (pc := 51) (v := (2 : Int32)) K (by decide) dX9_areOne_51 ?_
    refine Vw.iadd (pc := 52) K dX9_areOne_52 ?_
    obtain ⟨g3, h⟩ := wgd h
    obtain ⟨g4, h⟩ := wgd h
    refine Vw.laload (pc := 53) K g3 g4 dX9_areOne_53 ?_
    refine Vw.l2i (pc := 54) K dX9_areOne_54 ?_
    refine Vw.iload_n (pc := 55) (x := x2) K dX9_areOne_55 rfl ?_
    refine Vw.bipush (pc := 56) (v := (62 : Int32)) K (by decide) dX9_areOne_56 ?_
    refine Vw.iadd (pc := 58) K dX9_areOne_58 ?_
    refine Vw.aload_n (pc := 59) (x := x0) K dX9_areOne_59 rfl ?_
    refine Vw.getR (pc := 60) (k := 0) (f := 448) K cls7 rfl rfl u_6_17 g2 dX9_areOne_60 ?_
    refine Vw.iload_n (pc := 63) (x := x2) K dX9_areOne_63 rfl ?_
    refine Vw.iconst (pc := 64) (v := (2 : Int32)) K (by decide) dX9_areOne_64 ?_
    refine Vw.iadd (pc := 65) K dX9_areOne_65 ?_
    obtain ⟨g5, h⟩ := wgd h
    refine Vw.laload (pc := 66) K g3 g5 dX9_areOne_66 ?_
    refine Vw.l2i (pc := 67) K dX9_areOne_67 ?_
    obtain ⟨v7, e6, h⟩ := wbd h
    refine Vw.cV1 (pc := 68) (v := .inl v7) (c' := 0) (n' := 0) K (s_X9_areLike K.tr e6) cal_X9_areLike cls7 u_6_202 g2 rfl ⟨by decide, by decide⟩ ⟨by decide, by decide⟩ rfl (Nat.le_of_ble_eq_true rfl) dX9_areOne_68 rfl rfl ?_
    refine Vw.if_eq (pc := 71) (tgt := 111) K dX9_areOne_71 (by decide) (fun c8 => ?_) (fun c8 => ?_)
    · have h := wpos c8 h
      refine Vw.iconst (pc := 111) (v := (0 : Int32)) K (by decide) dX9_areOne_111 ?_
      exact Vw.zretE (pc := 112) K (Or.inl rfl) (Option.some.inj h) rfl E (by decide) (by decide) dX9_areOne_112
    · have h := wneg c8 h
      refine Vw.aload_n (pc := 74) (x := x0) K dX9_areOne_74 rfl ?_
      refine Vw.iload_n (pc := 75) (x := x1) K dX9_areOne_75 rfl ?_
      refine Vw.bipush (pc := 76) (v := (92 : Int32)) K (by decide) dX9_areOne_76 ?_
      refine Vw.iadd (pc := 78) K dX9_areOne_78 ?_
      refine Vw.aload_n (pc := 79) (x := x0) K dX9_areOne_79 rfl ?_
      refine Vw.getR (pc := 80) (k := 0) (f := 448) K cls7 rfl rfl u_6_17 g2 dX9_areOne_80 ?_
      refine Vw.iload_n (pc := 83) (x := x1) K dX9_areOne_83 rfl ?_
      refine Vw.iconst (pc := 84) (v := (3 : Int32)) K (by decide) dX9_areOne_84 ?_
      refine Vw.iadd (pc := 85) K dX9_areOne_85 ?_
      obtain ⟨g9, h⟩ := wgd h
      refine Vw.laload (pc := 86) K g3 g9 dX9_areOne_86 ?_
      refine Vw.l2i (pc := 87) K dX9_areOne_87 ?_
      refine Vw.iload_n (pc := 88) (x := x2) K dX9_areOne_88 rfl ?_
      refine Vw.bipush (pc := 89) (v := (92 : Int32)) K (by decide) dX9_areOne_89 ?_
      refine Vw.iadd (pc := 91) K dX9_areOne_91 ?_
      refine Vw.aload_n (pc := 92) (x := x0) K dX9_areOne_92 rfl ?_
      refine Vw.getR (pc := 93) (k := 0) (f := 448) K cls7 rfl rfl u_6_17 g2 dX9_areOne_93 ?_
      refine Vw.iload_n (pc := 96) (x := x2) K dX9_areOne_96 rfl ?_
      refine Vw.iconst (pc := 97) (v := (3 : Int32)) K (by decide) dX9_areOne_97 ?_
      refine Vw.iadd (pc := 98) K dX9_areOne_98 ?_
      obtain ⟨g10, h⟩ := wgd h
      refine Vw.laload (pc := 99) K g3 g10 dX9_areOne_99 ?_
      refine Vw.l2i (pc := 100) K dX9_areOne_100 ?_
      obtain ⟨v12, e11, h⟩ := wbd h
      refine Vw.cV1 (pc := 101) (v := .inl v12) (c' := 0) (n' := 0) K (s_X9_areLike K.tr e11) cal_X9_areLike cls7 u_6_202 g2 rfl ⟨by decide, by decide⟩ ⟨by decide, by decide⟩ rfl (Nat.le_of_ble_eq_true rfl) dX9_areOne_101 rfl rfl ?_
      refine Vw.if_eq (pc := 104) (tgt := 111) K dX9_areOne_104 (by decide) (fun c13 => ?_) (fun c13 => ?_)
      · have h := wpos c13 h
        refine Vw.iconst (pc := 111) (v := (0 : Int32)) K (by decide) dX9_areOne_111 ?_
        exact Vw.zretE (pc := 112) K (Or.inl rfl) (Option.some.inj h) rfl E (by decide) (by decide) dX9_areOne_112
      · have h := wneg c13 h
        refine Vw.iconst (pc := 107) (v := (1 : Int32)) K (by decide) dX9_areOne_107 ?_
        refine Vw.goto (pc := 108) (tgt := 112) K dX9_areOne_108 (by decide) ?_
        exact Vw.zretE (pc := 112) K (Or.inr rfl) (Option.some.inj h) rfl E (by decide) (by decide) dX9_areOne_112
def k_X9_areOne_35  (A : Hp) (x0 : Nat) (x1 : Int32) (x2 : Int32)  : Option (Int32) := k_X9_areOne_36 A x0 x1 x2 (0 : Int32)
set_option maxRecDepth 100000 in
theorem s_X9_areOne_35 {κ : KT} {r : Int32} {A : Hp} {x0 : Nat} {x1 : Int32} {x2 : Int32}   (K : Cx κ cX9_areOne 4 RX9 2 48 0 0) (E : Ed κ (some .boolean) "areOne" (.inl (some (.inl r))) A 0 0)  (h : k_X9_areOne_35  A x0 x1 x2  = some r) : Vw κ A 0 0 35 [(0, .inr (.inr x0)), (1, .inl x1), (2, .inl x2)] [] := by
  unfold k_X9_areOne_35 at h
  refine Vw.iconst (pc := 35) (v := (0 : Int32)) K (by decide) dX9_areOne_35 ?_
  exact Vw.loc rfl (s_X9_areOne_36 K E  h)
def f_X9_areOne (A : Hp) (x0 : Nat) (x1 : Int32) (x2 : Int32) : Option (Int32) := if (hsh A x0).1 = 8 then ((f_X9_haveOneName A x0 x1 x2).bind fun v16 => (if v16 = (0 : Int32) then k_X9_areOne_35 A x0 x1 x2 else if (hsh A (hgR A 448 x0 0)).1 = 11 then if wix (x1 + (8 : Int32)) (hsh A (hgR A 448 x0 0)).2 then if wix (x2 + (8 : Int32)) (hsh A (hgR A 448 x0 0)).2 then (if (hgL A 1035 (hgR A 448 x0 0) (x1 + (8 : Int32)).toNatClampNeg) = (hgL A 1035 (hgR A 448 x0 0) (x2 + (8 : Int32)).toNatClampNeg) then k_X9_areOne_36 A x0 x1 x2 (1 : Int32) else k_X9_areOne_35 A x0 x1 x2) else none else none else none)) else none
set_option maxRecDepth 100000 in
theorem s_X9_areOne {l : Launch} {g : GT} (hl : l.stackTraces = false) {A : Hp} {x0 : Nat} {x1 : Int32} {x2 : Int32} {r : Int32} (h : f_X9_areOne A x0 x1 x2 = some r) : MetV l g yX9_areOne (.code yX9_areOne cX9_areOne 4 (some .boolean)) [.inr (.inr x0), .inl x1, .inl x2] A (.inl (some (.inl r))) A 2 48 0 0 := by
  refine MetV.ofV hl (by decide +kernel) (Nat.le_of_ble_eq_true rfl) (fun κ K E => ?_)
  have K : Cx κ cX9_areOne 4 RX9 2 48 0 0 := K
  have E : Ed κ (some .boolean) "areOne" (.inl (some (.inl r))) A 0 0 := E
  unfold f_X9_areOne at h
  change Vw κ A 0 0 0 [(0, .inr (.inr x0)), (1, .inl x1), (2, .inl x2)] []
  refine Vw.aload_n (pc := 0) (x := x0) K dX9_areOne_0 rfl ?_
  refine Vw.iload_n (pc := 1) (x := x1) K dX9_areOne_1 rfl ?_
  refine Vw.iload_n (pc := 2) (x := x2) K dX9_areOne_2 rfl ?_
  obtain ⟨g14, h⟩ := wgd h
  obtain ⟨v16, e15, h⟩ := wbd h
  refine Vw.cV1 (pc := 3) (v := .inl v16) (c' := 0) (n' := 0) K (s_X9_haveOneName K.tr e15) cal_X9_haveOneName cls7 u_7_105 g14 rfl ⟨by decide, by decide⟩ ⟨by decide, by decide⟩ rfl (Nat.le_of_ble_eq_true rfl) dX9_areOne_3 rfl rfl ?_
  refine Vw.if_eq (pc := 6) (tgt := 35) K dX9_areOne_6 (by decide) (fun c17 => ?_) (fun c17 => ?_)
  · have h := wpos c17 h
    exact Vw.loc rfl (s_X9_areOne_35 K E  h)
  · have h := wneg c17 h
    refine Vw.aload_n (pc := 9) (x := x0) K dX9_areOne_9 rfl ?_
    refine Vw.getR (pc := 10) (k := 0) (f := 448) K cls7 rfl rfl u_6_17 g14 dX9_areOne_10 ?_
    refine Vw.iload_n (pc := 13) (x := x1) K dX9_areOne_13 rfl ?_
    refine Vw.bipush (pc := 14) (v := (8 : Int32)) K (by decide) dX9_areOne_14 ?_
    refine Vw.iadd (pc := 16) K dX9_areOne_16 ?_
    obtain ⟨g18, h⟩ := wgd h
    obtain ⟨g19, h⟩ := wgd h
    refine Vw.laload (pc := 17) K g18 g19 dX9_areOne_17 ?_
    refine Vw.aload_n (pc := 18) (x := x0) K dX9_areOne_18 rfl ?_
    refine Vw.getR (pc := 19) (k := 0) (f := 448) K cls7 rfl rfl u_6_17 g14 dX9_areOne_19 ?_
    refine Vw.iload_n (pc := 22) (x := x2) K dX9_areOne_22 rfl ?_
    refine Vw.bipush (pc := 23) (v := (8 : Int32)) K (by decide) dX9_areOne_23 ?_
    refine Vw.iadd (pc := 25) K dX9_areOne_25 ?_
    obtain ⟨g20, h⟩ := wgd h
    refine Vw.laload (pc := 26) K g18 g20 dX9_areOne_26 ?_
    refine Vw.lcmp_ne (pc := 27) (tgt := 35) K dX9_areOne_27 dX9_areOne_28 (by decide) (fun c21 => ?_) (fun c21 => ?_)
    · have h := wneg c21 h
      exact Vw.loc rfl (s_X9_areOne_35 K E  h)
    · have h := wpos c21 h
      refine Vw.iconst (pc := 31) (v := (1 : Int32)) K (by decide) dX9_areOne_31 ?_
      refine Vw.goto (pc := 32) (tgt := 36) K dX9_areOne_32 (by decide) ?_
      exact Vw.loc rfl (s_X9_areOne_36 K E  h)
theorem cal_X9_areOne : wCalV RX9 yX9_areOne (.code yX9_areOne cX9_areOne 4 (some .boolean)) 2 := ⟨by decide +kernel, u_7_123, us_5_6, u_1_9, u_7_124⟩
def k_X9_elder_2s (A : Hp) (x0 : Nat)  (rec2 : Int32 → Option (Int32))  (x1 : Int32) : Option (Int32) := if (hsh A x0).1 = 8 then if (hsh A (hgR A 448 x0 0)).1 = 11 then if wix (5 : Int32) (hsh A (hgR A 448 x0 0)).2 then (if (hgL A 1035 (hgR A 448 x0 0) (5 : Int32).toNatClampNeg) ≤ x1.toInt64 then some (-1 : Int32) else ((f_X9_cookie A x1).bind fun v6 => ((f_X9_areOne A x0 v6 (8600 : Int32)).bind fun v8 => (if v8 = (0 : Int32) then rec2 (x1 + (1 : Int32)) else some x1)))) else none else none else none
def k_X9_elder_2 (A : Hp) (x0 : Nat)  : Nat → Int32 → Option (Int32)
  | 0 => fun _ => none
  | fu + 1 => k_X9_elder_2s A x0  (k_X9_elder_2 A x0  fu)
set_option maxRecDepth 100000 in
theorem s_X9_elder_2 {κ : KT} {r : Int32} {A : Hp} {x0 : Nat}  (K : Cx κ cX9_elder 2 RX9 3 71 0 0) (E : Ed κ (some .int) "elder" (.inl (some (.inl r))) A 0 0)  : ∀ (fu : Nat)  (x1 : Int32),  k_X9_elder_2 A x0  fu x1 = some r → Vw κ A 0 0 2 [(0, .inr (.inr x0)), (1, .inl x1)] [] := by
  intro fu
  induction fu with
  | zero => intro x1 h; cases h
  | succ fu hr2 =>
    intro x1 h
    have h : k_X9_elder_2s A x0  (k_X9_elder_2 A x0  fu) x1 = some r := h
    unfold k_X9_elder_2s at h
    refine Vw.iload_n (pc := 2) (x := x1) K dX9_elder_2 rfl ?_
    refine Vw.i2l (pc := 3) K dX9_elder_3 ?_
    refine Vw.aload_n (pc := 4) (x := x0) K dX9_elder_4 rfl ?_
    obtain ⟨g1, h⟩ := wgd h
    refine Vw.getR (pc := 5) (k := 0) (f := 448) K cls7 rfl rfl u_6_17 g1 dX9_elder_5 ?_
    refine Vw.iconst (pc := 8) (v := (5 : Int32)) K (by decide) dX9_elder_8 ?_
    obtain ⟨g2, h⟩ := wgd h
    obtain ⟨g3, h⟩ := wgd h
    refine Vw.laload (pc := 9) K g2 g3 dX9_elder_9 ?_
    refine Vw.lcmp_ge (pc := 10) (tgt := 36) K dX9_elder_10 dX9_elder_11 (by decide) (fun c4 => ?_) (fun c4 => ?_)
    · have h := wpos c4 h
      refine Vw.iconst (pc := 36) (v := (-1 : Int32)) K (by decide) dX9_elder_36 ?_
      exact Vw.iretE (pc := 37) K (Option.some.inj h) rfl E (by decide) (by decide) dX9_elder_37
    · have h := wneg c4 h
      refine Vw.aload_n (pc := 14) (x := x0) K dX9_elder_14 rfl ?_
      refine Vw.iload_n (pc := 15) (x := x1) K dX9_elder_15 rfl ?_
      obtain ⟨v6, e5, h⟩ := wbd h
      refine Vw.cS1 (pc := 16) (v := .inl v6) (c' := 0) (n' := 0) K (s_X9_cookie K.tr e5) cal_X9_cookie u_7_102 rfl ⟨by decide, by decide⟩ ⟨by decide, by decide⟩ rfl (Nat.le_of_ble_eq_true rfl) dX9_elder_16 rfl rfl ?_
      refine Vw.sipush (pc := 19) (v := (8600 : Int32)) K (by decide) dX9_elder_19 ?_
      obtain ⟨v8, e7, h⟩ := wbd h
      refine Vw.cV1 (pc := 22) (v := .inl v8) (c' := 0) (n' := 0) K (s_X9_areOne K.tr e7) cal_X9_areOne cls7 u_7_121 g1 rfl ⟨by decide, by decide⟩ ⟨by decide, by decide⟩ rfl (Nat.le_of_ble_eq_true rfl) dX9_elder_22 rfl rfl ?_
      refine Vw.if_eq (pc := 25) (tgt := 30) K dX9_elder_25 (by decide) (fun c9 => ?_) (fun c9 => ?_)
      · have h := wpos c9 h
        refine Vw.iinc (pc := 30) (x := x1) (v := (1 : Int32)) K dX9_elder_30 rfl (by decide) (by decide) ?_
        refine Vw.goto (pc := 33) (tgt := 2) K dX9_elder_33 (by decide) ?_
        exact Vw.loc rfl (hr2 _ h)
      · have h := wneg c9 h
        refine Vw.iload_n (pc := 28) (x := x1) K dX9_elder_28 rfl ?_
        exact Vw.iretE (pc := 29) K (Option.some.inj h) rfl E (by decide) (by decide) dX9_elder_29
def f_X9_elder (A : Hp) (x0 : Nat) : Option (Int32) := k_X9_elder_2 A x0 FU (0 : Int32)
set_option maxRecDepth 100000 in
theorem s_X9_elder {l : Launch} {g : GT} (hl : l.stackTraces = false) {A : Hp} {x0 : Nat} {r : Int32} (h : f_X9_elder A x0 = some r) : MetV l g yX9_elder (.code yX9_elder cX9_elder 2 (some .int)) [.inr (.inr x0)] A (.inl (some (.inl r))) A 3 71 0 0 := by
  refine MetV.ofV hl (by decide +kernel) (Nat.le_of_ble_eq_true rfl) (fun κ K E => ?_)
  have K : Cx κ cX9_elder 2 RX9 3 71 0 0 := K
  have E : Ed κ (some .int) "elder" (.inl (some (.inl r))) A 0 0 := E
  unfold f_X9_elder at h
  change Vw κ A 0 0 0 [(0, .inr (.inr x0))] []
  refine Vw.iconst (pc := 0) (v := (0 : Int32)) K (by decide) dX9_elder_0 ?_
  refine Vw.istore_n (pc := 1) K dX9_elder_1 (by decide) ?_
  exact Vw.loc rfl (s_X9_elder_2 K E  _ _ h)
theorem cal_X9_elder : wCalV RX9 yX9_elder (.code yX9_elder cX9_elder 2 (some .int)) 0 := ⟨by decide +kernel, u_7_119, us_5_5, u_1_9, u_7_120⟩
def k_X9_pathMatches_61  (A : Hp)   : Option (Int32) := some (1 : Int32)
set_option maxRecDepth 100000 in
theorem s_X9_pathMatches_61 {κ : KT} {r : Int32} {A : Hp}    (K : Cx κ cX9_pathMatches 5 RX9 1 26 0 0) (E : Ed κ (some .boolean) "pathMatches" (.inl (some (.inl r))) A 0 0)  (h : k_X9_pathMatches_61  A   = some r) : Vw κ A 0 0 61 [] [] := by
  unfold k_X9_pathMatches_61 at h
  refine Vw.iconst (pc := 61) (v := (1 : Int32)) K (by decide) dX9_pathMatches_61 ?_
  refine Vw.goto (pc := 62) (tgt := 66) K dX9_pathMatches_62 (by decide) ?_
  exact Vw.zretE (pc := 66) K (Or.inr rfl) (Option.some.inj h) rfl E (by decide) (by decide) dX9_pathMatches_66
def f_X9_pathMatches (A : Hp) (x0 : Nat) (x1 : Int32) (x2 : Int32) (x3 : Int32) (x4 : Int32) : Option (Int32) := (if x2 < x4 then some (0 : Int32) else if (hsh A x0).1 = 8 then ((f_X9_areLike A x0 x1 x4 x3 x4).bind fun v4 => (if v4 = (0 : Int32) then some (0 : Int32) else (if x2 = x4 then k_X9_pathMatches_61 A else if (hsh A (hgR A 448 x0 0)).1 = 11 then if wix ((x3 + x4) - (1 : Int32)) (hsh A (hgR A 448 x0 0)).2 then (if (hgL A 1035 (hgR A 448 x0 0) ((x3 + x4) - (1 : Int32)).toNatClampNeg) = (47 : Int64) then k_X9_pathMatches_61 A else if wix (x1 + x4) (hsh A (hgR A 448 x0 0)).2 then (if (hgL A 1035 (hgR A 448 x0 0) (x1 + x4).toNatClampNeg) = (47 : Int64) then k_X9_pathMatches_61 A else some (0 : Int32)) else none) else none else none))) else none)
set_option maxRecDepth 100000 in
theorem s_X9_pathMatches {l : Launch} {g : GT} (hl : l.stackTraces = false) {A : Hp} {x0 : Nat} {x1 : Int32} {x2 : Int32} {x3 : Int32} {x4 : Int32} {r : Int32} (h : f_X9_pathMatches A x0 x1 x2 x3 x4 = some r) : MetV l g yX9_pathMatches (.code yX9_pathMatches cX9_pathMatches 5 (some .boolean)) [.inr (.inr x0), .inl x1, .inl x2, .inl x3, .inl x4] A (.inl (some (.inl r))) A 1 26 0 0 := by
  refine MetV.ofV hl (by decide +kernel) (Nat.le_of_ble_eq_true rfl) (fun κ K E => ?_)
  have K : Cx κ cX9_pathMatches 5 RX9 1 26 0 0 := K
  have E : Ed κ (some .boolean) "pathMatches" (.inl (some (.inl r))) A 0 0 := E
  unfold f_X9_pathMatches at h
  change Vw κ A 0 0 0 [(0, .inr (.inr x0)), (1, .inl x1), (2, .inl x2), (3, .inl x3), (4, .inl x4)] []
  refine Vw.iload_n (pc := 0) (x := x2) K dX9_pathMatches_0 rfl ?_
  refine Vw.iload (pc := 1) (x := x4) K dX9_pathMatches_1 rfl ?_
  refine Vw.icmp_lt (pc := 3) (tgt := 19) K dX9_pathMatches_3 (by decide) (fun c1 => ?_) (fun c1 => ?_)
  · have h := wpos c1 h
    refine Vw.iconst (pc := 19) (v := (0 : Int32)) K (by decide) dX9_pathMatches_19 ?_
    exact Vw.zretE (pc := 20) K (Or.inl rfl) (Option.some.inj h) rfl E (by decide) (by decide) dX9_pathMatches_20
  · have h := wneg c1 h
    refine Vw.aload_n (pc := 6) (x := x0) K dX9_pathMatches_6 rfl ?_
    refine Vw.iload_n (pc := 7) (x := x1) K dX9_pathMatches_7 rfl ?_
    refine Vw.iload (pc := 8) (x := x4) K dX9_pathMatches_8 rfl ?_
    refine Vw.iload_n (pc := 10) (x := x3) K dX9_pathMatches_10 rfl ?_
    refine Vw.iload (pc := 11) (x := x4) K dX9_pathMatches_11 rfl ?_
    obtain ⟨g2, h⟩ := wgd h
    obtain ⟨v4, e3, h⟩ := wbd h
    refine Vw.cV1 (pc := 13) (v := .inl v4) (c' := 0) (n' := 0) K (s_X9_areLike K.tr e3) cal_X9_areLike cls7 u_6_202 g2 rfl ⟨by decide, by decide⟩ ⟨by decide, by decide⟩ rfl (Nat.le_of_ble_eq_true rfl) dX9_pathMatches_13 rfl rfl ?_
    refine Vw.if_ne (pc := 16) (tgt := 21) K dX9_pathMatches_16 (by decide) (fun c5 => ?_) (fun c5 => ?_)
    · have h := wneg c5 h
      refine Vw.iload_n (pc := 21) (x := x2) K dX9_pathMatches_21 rfl ?_
      refine Vw.iload (pc := 22) (x := x4) K dX9_pathMatches_22 rfl ?_
      refine Vw.icmp_eq (pc := 24) (tgt := 61) K dX9_pathMatches_24 (by decide) (fun c6 => ?_) (fun c6 => ?_)
      · have h := wpos c6 h
        exact Vw.loc rfl (s_X9_pathMatches_61 K E  h)
      · have h := wneg c6 h
        refine Vw.aload_n (pc := 27) (x := x0) K dX9_pathMatches_27 rfl ?_
        refine Vw.getR (pc := 28) (k := 0) (f := 448) K cls7 rfl rfl u_6_17 g2 dX9_pathMatches_28 ?_
        refine Vw.iload_n (pc := 31) (x := x3) K dX9_pathMatches_31 rfl ?_
        refine Vw.iload (pc := 32) (x := x4) K dX9_pathMatches_32 rfl ?_
        refine Vw.iadd (pc := 34) K dX9_pathMatches_34 ?_
        refine Vw.iconst (pc := 35) (v := (1 : Int32)) K (by decide) dX9_pathMatches_35 ?_
        refine Vw.isub (pc := 36) K dX9_pathMatches_36 ?_
        obtain ⟨g7, h⟩ := wgd h
        obtain ⟨g8, h⟩ := wgd h
        refine Vw.laload (pc := 37) K g7 g8 dX9_pathMatches_37 ?_
        refine Vw.ldc2 (pc := 38) (v := (47 : Int64)) K u_6_168 dX9_pathMatches_38 ?_
        refine Vw.lcmp_eq (pc := 41) (tgt := 61) K dX9_pathMatches_41 dX9_pathMatches_42 (by decide) (fun c9 => ?_) (fun c9 => ?_)
        · have h := wpos c9 h
          exact Vw.loc rfl (s_X9_pathMatches_61 K E  h)
        · have h := wneg c9 h
          refine Vw.aload_n (pc := 45) (x := x0) K dX9_pathMatches_45 rfl ?_
          refine Vw.getR (pc := 46) (k := 0) (f := 448) K cls7 rfl rfl u_6_17 g2 dX9_pathMatches_46 ?_
          refine Vw.iload_n (pc := 49) (x := x1) K dX9_pathMatches_49 rfl ?_
          refine Vw.iload (pc := 50) (x := x4) K dX9_pathMatches_50 rfl ?_
          refine Vw.iadd (pc := 52) K dX9_pathMatches_52 ?_
          obtain ⟨g10, h⟩ := wgd h
          refine Vw.laload (pc := 53) K g7 g10 dX9_pathMatches_53 ?_
          refine Vw.ldc2 (pc := 54) (v := (47 : Int64)) K u_6_168 dX9_pathMatches_54 ?_
          refine Vw.lcmp_ne (pc := 57) (tgt := 65) K dX9_pathMatches_57 dX9_pathMatches_58 (by decide) (fun c11 => ?_) (fun c11 => ?_)
          · have h := wneg c11 h
            refine Vw.iconst (pc := 65) (v := (0 : Int32)) K (by decide) dX9_pathMatches_65 ?_
            exact Vw.zretE (pc := 66) K (Or.inl rfl) (Option.some.inj h) rfl E (by decide) (by decide) dX9_pathMatches_66
          · have h := wpos c11 h
            exact Vw.loc rfl (s_X9_pathMatches_61 K E  h)
    · have h := wpos c5 h
      refine Vw.iconst (pc := 19) (v := (0 : Int32)) K (by decide) dX9_pathMatches_19 ?_
      exact Vw.zretE (pc := 20) K (Or.inl rfl) (Option.some.inj h) rfl E (by decide) (by decide) dX9_pathMatches_20
theorem cal_X9_pathMatches : wCalV RX9 yX9_pathMatches (.code yX9_pathMatches cX9_pathMatches 5 (some .boolean)) 4 := ⟨by decide +kernel, u_7_111, us_5_3, u_1_9, u_7_112⟩
def k_X9_hides_163 (rec4 : Int32 → Int32 → Option (Int32)) (A : Hp) (x0 : Nat) (x2 : Int32) (t0 : Int32) : Option (Int32) := rec4 t0 (x2 + (1 : Int32))
set_option maxRecDepth 100000 in
theorem s_X9_hides_163 {κ : KT} {r : Int32} {A : Hp} {x0 : Nat} {x2 : Int32} {t0 : Int32} {rec4 : Int32 → Int32 → Option (Int32)} (K : Cx κ cX9_hides 5 RX9 2 50 0 0) (E : Ed κ (some .boolean) "hides" (.inl (some (.inl r))) A 0 0) (hr4 : ∀ (x1 : Int32) (x2 : Int32), rec4 x1 x2 = some r → Vw κ A 0 0 4 [(0, .inr (.inr x0)), (1, .inl x1), (2, .inl x2)] []) (h : k_X9_hides_163 rec4 A x0 x2 t0 = some r) : Vw κ A 0 0 163 [(0, .inr (.inr x0)), (2, .inl x2)] [.inl t0] := by
  unfold k_X9_hides_163 at h
  refine Vw.istore_n (pc := 163) K dX9_hides_163 (by decide) ?_
  refine Vw.iinc (pc := 164) (x := x2) (v := (1 : Int32)) K dX9_hides_164 rfl (by decide) (by decide) ?_
  refine Vw.goto (pc := 167) (tgt := 4) K dX9_hides_167 (by decide) ?_
  exact Vw.loc rfl (hr4 _ _ h)
def k_X9_hides_158 (rec4 : Int32 → Int32 → Option (Int32)) (A : Hp) (x0 : Nat) (x2 : Int32)  : Option (Int32) := k_X9_hides_163 rec4 A x0 x2 (1 : Int32)
set_option maxRecDepth 100000 in
theorem s_X9_hides_158 {κ : KT} {r : Int32} {A : Hp} {x0 : Nat} {x2 : Int32}  {rec4 : Int32 → Int32 → Option (Int32)} (K : Cx κ cX9_hides 5 RX9 2 50 0 0) (E : Ed κ (some .boolean) "hides" (.inl (some (.inl r))) A 0 0) (hr4 : ∀ (x1 : Int32) (x2 : Int32), rec4 x1 x2 = some r → Vw κ A 0 0 4 [(0, .inr (.inr x0)), (1, .inl x1), (2, .inl x2)] []) (h : k_X9_hides_158 rec4 A x0 x2  = some r) : Vw κ A 0 0 158 [(0, .inr (.inr x0)), (2, .inl x2)] [] := by
  unfold k_X9_hides_158 at h
  refine Vw.iconst (pc := 158) (v := (1 : Int32)) K (by decide) dX9_hides_158 ?_
  refine Vw.goto (pc := 159) (tgt := 163) K dX9_hides_159 (by decide) ?_
  exact Vw.loc rfl (s_X9_hides_163 K E hr4 h)
def k_X9_hides_162 (rec4 : Int32 → Int32 → Option (Int32)) (A : Hp) (x0 : Nat) (x2 : Int32)  : Option (Int32) := k_X9_hides_163 rec4 A x0 x2 (0 : Int32)
set_option maxRecDepth 100000 in
theorem s_X9_hides_162 {κ : KT} {r : Int32} {A : Hp} {x0 : Nat} {x2 : Int32}  {rec4 : Int32 → Int32 → Option (Int32)} (K : Cx κ cX9_hides 5 RX9 2 50 0 0) (E : Ed κ (some .boolean) "hides" (.inl (some (.inl r))) A 0 0) (hr4 : ∀ (x1 : Int32) (x2 : Int32), rec4 x1 x2 = some r → Vw κ A 0 0 4 [(0, .inr (.inr x0)), (1, .inl x1), (2, .inl x2)] []) (h : k_X9_hides_162 rec4 A x0 x2  = some r) : Vw κ A 0 0 162 [(0, .inr (.inr x0)), (2, .inl x2)] [] := by
  unfold k_X9_hides_162 at h
  refine Vw.iconst (pc := 162) (v := (0 : Int32)) K (by decide) dX9_hides_162 ?_
  exact Vw.loc rfl (s_X9_hides_163 K E hr4 h)
def k_X9_hides_90 (rec4 : Int32 → Int32 → Option (Int32)) (A : Hp) (x0 : Nat) (x1 : Int32) (x2 : Int32) (x3 : Int32) (t0 : Int32) : Option (Int32) := (if x1 = (0 : Int32) then if (hsh A x0).1 = 8 then if (hsh A (hgR A 448 x0 0)).1 = 11 then if wix (x3 + (9 : Int32)) (hsh A (hgR A 448 x0 0)).2 then (if (hgL A 1035 (hgR A 448 x0 0) (x3 + (9 : Int32)).toNatClampNeg) = (1 : Int64) then ((f_X9_haveOneName A x0 x3 (8600 : Int32)).bind fun v7 => (if v7 = (0 : Int32) then k_X9_hides_162 rec4 A x0 x2 else (if t0 = (0 : Int32) then k_X9_hides_162 rec4 A x0 x2 else if wix (8603 : Int32) (hsh A (hgR A 448 x0 0)).2 then if wix (x3 + (3 : Int32)) (hsh A (hgR A 448 x0 0)).2 then ((f_X9_pathMatches A x0 (8692 : Int32) ((hgL A 1035 (hgR A 448 x0 0) (8603 : Int32).toNatClampNeg).toInt32) (x3 + (92 : Int32)) ((hgL A 1035 (hgR A 448 x0 0) (x3 + (3 : Int32)).toNatClampNeg).toInt32)).bind fun v13 => (if v13 = (0 : Int32) then k_X9_hides_162 rec4 A x0 x2 else k_X9_hides_158 rec4 A x0 x2)) else none else none))) else k_X9_hides_162 rec4 A x0 x2) else none else none else none else k_X9_hides_158 rec4 A x0 x2)
set_option maxRecDepth 100000 in
theorem s_X9_hides_90 {κ : KT} {r : Int32} {A : Hp} {x0 : Nat} {x1 : Int32} {x2 : Int32} {x3 : Int32} {t0 : Int32} {rec4 : Int32 → Int32 → Option (Int32)} (K : Cx κ cX9_hides 5 RX9 2 50 0 0) (E : Ed κ (some .boolean) "hides" (.inl (some (.inl r))) A 0 0) (hr4 : ∀ (x1 : Int32) (x2 : Int32), rec4 x1 x2 = some r → Vw κ A 0 0 4 [(0, .inr (.inr x0)), (1, .inl x1), (2, .inl x2)] []) (h : k_X9_hides_90 rec4 A x0 x1 x2 x3 t0 = some r) : Vw κ A 0 0 90 [(0, .inr (.inr x0)), (1, .inl x1), (2, .inl x2), (3, .inl x3)] [.inl t0] := by
  unfold k_X9_hides_90 at h
  refine Vw.istore (pc := 90) K dX9_hides_90 (by decide) ?_
  refine Vw.iload_n (pc := 92) (x := x1) K dX9_hides_92 rfl ?_
  refine Vw.if_ne (pc := 93) (tgt := 158) K dX9_hides_93 (by decide) (fun c1 => ?_) (fun c1 => ?_)
  · have h := wneg c1 h
    exact Vw.loc rfl (s_X9_hides_158 K E hr4 h)
  · have h := wpos c1 h
    refine Vw.aload_n (pc := 96) (x := x0) K dX9_hides_96 rfl ?_
    obtain ⟨g2, h⟩ := wgd h
    refine Vw.getR (pc := 97) (k := 0) (f := 448) K cls7 rfl rfl u_6_17 g2 dX9_hides_97 ?_
    refine Vw.iload_n (pc := 100) (x := x3) K dX9_hides_100 rfl ?_
    refine Vw.bipush (pc := 101) (v := (9 : Int32)) K (by decide) dX9_hides_101 ?_
    refine Vw.iadd (pc := 103) K dX9_hides_103 ?_
    obtain ⟨g3, h⟩ := wgd h
    obtain ⟨g4, h⟩ := wgd h
    refine Vw.laload (pc := 104) K g3 g4 dX9_hides_104 ?_
    refine Vw.lconst (pc := 105) (v := (1 : Int64)) K (by decide) dX9_hides_105 ?_
    refine Vw.lcmp_ne (pc := 106) (tgt := 162) K dX9_hides_106 dX9_hides_107 (by decide) (fun c5 => ?_) (fun c5 => ?_)
    · have h := wneg c5 h
      exact Vw.loc rfl (s_X9_hides_162 K E hr4 h)
    · have h := wpos c5 h
      refine Vw.aload_n (pc := 110) (x := x0) K dX9_hides_110 rfl ?_
      refine Vw.iload_n (pc := 111) (x := x3) K dX9_hides_111 rfl ?_
      refine Vw.sipush (pc := 112) (v := (8600 : Int32)) K (by decide) dX9_hides_112 ?_
      obtain ⟨v7, e6, h⟩ := wbd h
      refine Vw.cV1 (pc := 115) (v := .inl v7) (c' := 0) (n' := 0) K (s_X9_haveOneName K.tr e6) cal_X9_haveOneName cls7 u_7_105 g2 rfl ⟨by decide, by decide⟩ ⟨by decide, by decide⟩ rfl (Nat.le_of_ble_eq_true rfl) dX9_hides_115 rfl rfl ?_
      refine Vw.if_eq (pc := 118) (tgt := 162) K dX9_hides_118 (by decide) (fun c8 => ?_) (fun c8 => ?_)
      · have h := wpos c8 h
        exact Vw.loc rfl (s_X9_hides_162 K E hr4 h)
      · have h := wneg c8 h
        refine Vw.iload (pc := 121) (x := t0) K dX9_hides_121 rfl ?_
        refine Vw.if_eq (pc := 123) (tgt := 162) K dX9_hides_123 (by decide) (fun c9 => ?_) (fun c9 => ?_)
        · have h := wpos c9 h
          exact Vw.loc rfl (s_X9_hides_162 K E hr4 h)
        · have h := wneg c9 h
          refine Vw.aload_n (pc := 126) (x := x0) K dX9_hides_126 rfl ?_
          refine Vw.sipush (pc := 127) (v := (8692 : Int32)) K (by decide) dX9_hides_127 ?_
          refine Vw.aload_n (pc := 130) (x := x0) K dX9_hides_130 rfl ?_
          refine Vw.getR (pc := 131) (k := 0) (f := 448) K cls7 rfl rfl u_6_17 g2 dX9_hides_131 ?_
          refine Vw.sipush (pc := 134) (v := (8603 : Int32)) K (by decide) dX9_hides_134 ?_
          obtain ⟨g10, h⟩ := wgd h
          refine Vw.laload (pc := 137) K g3 g10 dX9_hides_137 ?_
          refine Vw.l2i (pc := 138) K dX9_hides_138 ?_
          refine Vw.iload_n (pc := 139) (x := x3) K dX9_hides_139 rfl ?_
          refine Vw.bipush (pc := 140) (v := (92 : Int32)) K (by decide) dX9_hides_140 ?_
          refine Vw.iadd (pc := 142) K dX9_hides_142 ?_
          refine Vw.aload_n (pc := 143) (x := x0) K dX9_hides_143 rfl ?_
          refine Vw.getR (pc := 144) (k := 0) (f := 448) K cls7 rfl rfl u_6_17 g2 dX9_hides_144 ?_
          refine Vw.iload_n (pc := 147) (x := x3) K dX9_hides_147 rfl ?_
          refine Vw.iconst (pc := 148) (v := (3 : Int32)) K (by decide) dX9_hides_148 ?_
          refine Vw.iadd (pc := 149) K dX9_hides_149 ?_
          obtain ⟨g11, h⟩ := wgd h
          refine Vw.laload (pc := 150) K g3 g11 dX9_hides_150 ?_
          refine Vw.l2i (pc := 151) K dX9_hides_151 ?_
          obtain ⟨v13, e12, h⟩ := wbd h
          refine Vw.cV1 (pc := 152) (v := .inl v13) (c' := 0) (n' := 0) K (s_X9_pathMatches K.tr e12) cal_X9_pathMatches cls7 u_7_109 g2 rfl ⟨by decide, by decide⟩ ⟨by decide, by decide⟩ rfl (Nat.le_of_ble_eq_true rfl) dX9_hides_152 rfl rfl ?_
          refine Vw.if_eq (pc := 155) (tgt := 162) K dX9_hides_155 (by decide) (fun c14 => ?_) (fun c14 => ?_)
          · have h := wpos c14 h
            exact Vw.loc rfl (s_X9_hides_162 K E hr4 h)
          · have h := wneg c14 h
            exact Vw.loc rfl (s_X9_hides_158 K E hr4 h)
def k_X9_hides_85 (rec4 : Int32 → Int32 → Option (Int32)) (A : Hp) (x0 : Nat) (x1 : Int32) (x2 : Int32) (x3 : Int32)  : Option (Int32) := k_X9_hides_90 rec4 A x0 x1 x2 x3 (1 : Int32)
set_option maxRecDepth 100000 in
theorem s_X9_hides_85 {κ : KT} {r : Int32} {A : Hp} {x0 : Nat} {x1 : Int32} {x2 : Int32} {x3 : Int32}  {rec4 : Int32 → Int32 → Option (Int32)} (K : Cx κ cX9_hides 5 RX9 2 50 0 0) (E : Ed κ (some .boolean) "hides" (.inl (some (.inl r))) A 0 0) (hr4 : ∀ (x1 : Int32) (x2 : Int32), rec4 x1 x2 = some r → Vw κ A 0 0 4 [(0, .inr (.inr x0)), (1, .inl x1), (2, .inl x2)] []) (h : k_X9_hides_85 rec4 A x0 x1 x2 x3  = some r) : Vw κ A 0 0 85 [(0, .inr (.inr x0)), (1, .inl x1), (2, .inl x2), (3, .inl x3)] [] := by
  unfold k_X9_hides_85 at h
  refine Vw.iconst (pc := 85) (v := (1 : Int32)) K (by decide) dX9_hides_85 ?_
  refine Vw.goto (pc := 86) (tgt := 90) K dX9_hides_86 (by decide) ?_
  exact Vw.loc rfl (s_X9_hides_90 K E hr4 h)
def k_X9_hides_4s (A : Hp) (x0 : Nat)  (rec4 : Int32 → Int32 → Option (Int32))  (x1 : Int32) (x2 : Int32) : Option (Int32) := if (hsh A x0).1 = 8 then if (hsh A (hgR A 448 x0 0)).1 = 11 then if wix (5 : Int32) (hsh A (hgR A 448 x0 0)).2 then (if (hgL A 1035 (hgR A 448 x0 0) (5 : Int32).toNatClampNeg) ≤ x2.toInt64 then if wZ x1 then some x1 else none else ((f_X9_cookie A x2).bind fun v21 => if wix (v21 + (2 : Int32)) (hsh A (hgR A 448 x0 0)).2 then if wix (8602 : Int32) (hsh A (hgR A 448 x0 0)).2 then ((f_X9_matches A x0 (v21 + (62 : Int32)) ((hgL A 1035 (hgR A 448 x0 0) (v21 + (2 : Int32)).toNatClampNeg).toInt32) (8662 : Int32) ((hgL A 1035 (hgR A 448 x0 0) (8602 : Int32).toNatClampNeg).toInt32)).bind fun v25 => (if v25 = (0 : Int32) then ((f_X9_matches A x0 (8662 : Int32) ((hgL A 1035 (hgR A 448 x0 0) (8602 : Int32).toNatClampNeg).toInt32) (v21 + (62 : Int32)) ((hgL A 1035 (hgR A 448 x0 0) (v21 + (2 : Int32)).toNatClampNeg).toInt32)).bind fun v28 => (if v28 = (0 : Int32) then k_X9_hides_90 rec4 A x0 x1 x2 v21 (0 : Int32) else k_X9_hides_85 rec4 A x0 x1 x2 v21)) else k_X9_hides_85 rec4 A x0 x1 x2 v21)) else none else none)) else none else none else none
def k_X9_hides_4 (A : Hp) (x0 : Nat)  : Nat → Int32 → Int32 → Option (Int32)
  | 0 => fun _ _ => none
  | fu + 1 => k_X9_hides_4s A x0  (k_X9_hides_4 A x0  fu)
set_option maxRecDepth 100000 in
theorem s_X9_hides_4 {κ : KT} {r : Int32} {A : Hp} {x0 : Nat}  (K : Cx κ cX9_hides 5 RX9 2 50 0 0) (E : Ed κ (some .boolean) "hides" (.inl (some (.inl r))) A 0 0)  : ∀ (fu : Nat)  (x1 : Int32) (x2 : Int32),  k_X9_hides_4 A x0  fu x1 x2 = some r → Vw κ A 0 0 4 [(0, .inr (.inr x0)), (1, .inl x1), (2, .inl x2)] [] := by
  intro fu
  induction fu with
  | zero => intro x1 x2 h; cases h
  | succ fu hr4 =>
    intro x1 x2 h
    have h : k_X9_hides_4s A x0  (k_X9_hides_4 A x0  fu) x1 x2 = some r := h
    unfold k_X9_hides_4s at h
    refine Vw.iload_n (pc := 4) (x := x2) K dX9_hides_4 rfl ?_
    refine Vw.i2l (pc := 5) K dX9_hides_5 ?_
    refine Vw.aload_n (pc := 6) (x := x0) K dX9_hides_6 rfl ?_
    obtain ⟨g15, h⟩ := wgd h
    refine Vw.getR (pc := 7) (k := 0) (f := 448) K cls7 rfl rfl u_6_17 g15 dX9_hides_7 ?_
    refine Vw.iconst (pc := 10) (v := (5 : Int32)) K (by decide) dX9_hides_10 ?_
    obtain ⟨g16, h⟩ := wgd h
    obtain ⟨g17, h⟩ := wgd h
    refine Vw.laload (pc := 11) K g16 g17 dX9_hides_11 ?_
    refine Vw.lcmp_ge (pc := 12) (tgt := 170) K dX9_hides_12 dX9_hides_13 (by decide) (fun c18 => ?_) (fun c18 => ?_)
    · have h := wpos c18 h
      refine Vw.iload_n (pc := 170) (x := x1) K dX9_hides_170 rfl ?_
      obtain ⟨g19, h⟩ := wgd h
      exact Vw.zretE (pc := 171) K g19 (Option.some.inj h) rfl E (by decide) (by decide) dX9_hides_171
    · have h := wneg c18 h
      refine Vw.iload_n (pc := 16) (x := x2) K dX9_hides_16 rfl ?_
      obtain ⟨v21, e20, h⟩ := wbd h
      refine Vw.cS1 (pc := 17) (v := .inl v21) (c' := 0) (n' := 0) K (s_X9_cookie K.tr e20) cal_X9_cookie u_7_102 rfl ⟨by decide, by decide⟩ ⟨by decide, by decide⟩ rfl (Nat.le_of_ble_eq_true rfl) dX9_hides_17 rfl rfl ?_
      refine Vw.istore_n (pc := 20) K dX9_hides_20 (by decide) ?_
      refine Vw.aload_n (pc := 21) (x := x0) K dX9_hides_21 rfl ?_
      refine Vw.iload_n (pc := 22) (x := v21) K dX9_hides_22 rfl ?_
      refine Vw.bipush (pc := 23) (v := (62 : Int32)) K (by decide) dX9_hides_23 ?_
      refine Vw.iadd (pc := 25) K dX9_hides_25 ?_
      refine Vw.aload_n (pc := 26) (x := x0) K dX9_hides_26 rfl ?_
      refine Vw.getR (pc := 27) (k := 0) (f := 448) K cls7 rfl rfl u_6_17 g15 dX9_hides_27 ?_
      refine Vw.iload_n (pc := 30) (x := v21) K dX9_hides_30 rfl ?_
      refine Vw.iconst (pc := 31) (v := (2 : Int32)) K (by decide) dX9_hides_31 ?_
      refine Vw.iadd (pc := 32) K dX9_hides_32 ?_
      obtain ⟨g22, h⟩ := wgd h
      refine Vw.laload (pc := 33) K g16 g22 dX9_hides_33 ?_
      refine Vw.l2i (pc := 34) K dX9_hides_34 ?_
      refine Vw.sipush (pc := 35) (v := (8662 : Int32)) K (by decide) dX9_hides_35 ?_
      refine Vw.aload_n (pc := 38) (x := x0) K dX9_hides_38 rfl ?_
      refine Vw.getR (pc := 39) (k := 0) (f := 448) K cls7 rfl rfl u_6_17 g15 dX9_hides_39 ?_
      refine Vw.sipush (pc := 42) (v := (8602 : Int32)) K (by decide) dX9_hides_42 ?_
      obtain ⟨g23, h⟩ := wgd h
      refine Vw.laload (pc := 45) K g16 g23 dX9_hides_45 ?_
      refine Vw.l2i (pc := 46) K dX9_hides_46 ?_
      obtain ⟨v25, e24, h⟩ := wbd h
      refine Vw.cV1 (pc := 47) (v := .inl v25) (c' := 0) (n' := 0) K (s_X9_matches K.tr e24) cal_X9_matches cls7 u_6_198 g15 rfl ⟨by decide, by decide⟩ ⟨by decide, by decide⟩ rfl (Nat.le_of_ble_eq_true rfl) dX9_hides_47 rfl rfl ?_
      refine Vw.if_ne (pc := 50) (tgt := 85) K dX9_hides_50 (by decide) (fun c26 => ?_) (fun c26 => ?_)
      · have h := wneg c26 h
        exact Vw.loc rfl (s_X9_hides_85 K E hr4 h)
      · have h := wpos c26 h
        refine Vw.aload_n (pc := 53) (x := x0) K dX9_hides_53 rfl ?_
        refine Vw.sipush (pc := 54) (v := (8662 : Int32)) K (by decide) dX9_hides_54 ?_
        refine Vw.aload_n (pc := 57) (x := x0) K dX9_hides_57 rfl ?_
        refine Vw.getR (pc := 58) (k := 0) (f := 448) K cls7 rfl rfl u_6_17 g15 dX9_hides_58 ?_
        refine Vw.sipush (pc := 61) (v := (8602 : Int32)) K (by decide) dX9_hides_61 ?_
        refine Vw.laload (pc := 64) K g16 g23 dX9_hides_64 ?_
        refine Vw.l2i (pc := 65) K dX9_hides_65 ?_
        refine Vw.iload_n (pc := 66) (x := v21) K dX9_hides_66 rfl ?_
        refine Vw.bipush (pc := 67) (v := (62 : Int32)) K (by decide) dX9_hides_67 ?_
        refine Vw.iadd (pc := 69) K dX9_hides_69 ?_
        refine Vw.aload_n (pc := 70) (x := x0) K dX9_hides_70 rfl ?_
        refine Vw.getR (pc := 71) (k := 0) (f := 448) K cls7 rfl rfl u_6_17 g15 dX9_hides_71 ?_
        refine Vw.iload_n (pc := 74) (x := v21) K dX9_hides_74 rfl ?_
        refine Vw.iconst (pc := 75) (v := (2 : Int32)) K (by decide) dX9_hides_75 ?_
        refine Vw.iadd (pc := 76) K dX9_hides_76 ?_
        refine Vw.laload (pc := 77) K g16 g22 dX9_hides_77 ?_
        refine Vw.l2i (pc := 78) K dX9_hides_78 ?_
        obtain ⟨v28, e27, h⟩ := wbd h
        refine Vw.cV1 (pc := 79) (v := .inl v28) (c' := 0) (n' := 0) K (s_X9_matches K.tr e27) cal_X9_matches cls7 u_6_198 g15 rfl ⟨by decide, by decide⟩ ⟨by decide, by decide⟩ rfl (Nat.le_of_ble_eq_true rfl) dX9_hides_79 rfl rfl ?_
        refine Vw.if_eq (pc := 82) (tgt := 89) K dX9_hides_82 (by decide) (fun c29 => ?_) (fun c29 => ?_)
        · have h := wpos c29 h
          refine Vw.iconst (pc := 89) (v := (0 : Int32)) K (by decide) dX9_hides_89 ?_
          exact Vw.loc rfl (s_X9_hides_90 K E hr4 h)
        · have h := wneg c29 h
          exact Vw.loc rfl (s_X9_hides_85 K E hr4 h)
def f_X9_hides (A : Hp) (x0 : Nat) : Option (Int32) := k_X9_hides_4 A x0 FU (0 : Int32) (0 : Int32)
set_option maxRecDepth 100000 in
theorem s_X9_hides {l : Launch} {g : GT} (hl : l.stackTraces = false) {A : Hp} {x0 : Nat} {r : Int32} (h : f_X9_hides A x0 = some r) : MetV l g yX9_hides (.code yX9_hides cX9_hides 5 (some .boolean)) [.inr (.inr x0)] A (.inl (some (.inl r))) A 2 50 0 0 := by
  refine MetV.ofV hl (by decide +kernel) (Nat.le_of_ble_eq_true rfl) (fun κ K E => ?_)
  have K : Cx κ cX9_hides 5 RX9 2 50 0 0 := K
  have E : Ed κ (some .boolean) "hides" (.inl (some (.inl r))) A 0 0 := E
  unfold f_X9_hides at h
  change Vw κ A 0 0 0 [(0, .inr (.inr x0))] []
  refine Vw.iconst (pc := 0) (v := (0 : Int32)) K (by decide) dX9_hides_0 ?_
  refine Vw.istore_n (pc := 1) K dX9_hides_1 (by decide) ?_
  refine Vw.iconst (pc := 2) (v := (0 : Int32)) K (by decide) dX9_hides_2 ?_
  refine Vw.istore_n (pc := 3) K dX9_hides_3 (by decide) ?_
  exact Vw.loc rfl (s_X9_hides_4 K E  _ _ _ h)
theorem cal_X9_hides : wCalV RX9 yX9_hides (.code yX9_hides cX9_hides 5 (some .boolean)) 0 := ⟨by decide +kernel, u_7_100, us_5_1, u_1_9, u_7_101⟩
def k_X9_cause_329  (A : Hp) (x0 : Nat) (x1 : Int32)  : Option (Int32) := if (hsh A x0).1 = 8 then ((f_X9_elder A x0).bind fun v3 => (if x1 = (0 : Int32) then some (0 : Int32) else (if v3 < (0 : Int32) then some (0 : Int32) else ((f_X9_cookie A v3).bind fun v7 => if (hsh A (hgR A 448 x0 0)).1 = 11 then if wix (v7 + (10 : Int32)) (hsh A (hgR A 448 x0 0)).2 then (if (hgL A 1035 (hgR A 448 x0 0) (v7 + (10 : Int32)).toNatClampNeg) = (1 : Int64) then some (62 : Int32) else some (0 : Int32)) else none else none)))) else none
set_option maxRecDepth 100000 in
theorem s_X9_cause_329 {κ : KT} {r : Int32} {A : Hp} {x0 : Nat} {x1 : Int32}   (K : Cx κ cX9_cause 7 RX9 4 98 0 0) (E : Ed κ (some .int) "cause" (.inl (some (.inl r))) A 0 0)  (h : k_X9_cause_329  A x0 x1  = some r) : Vw κ A 0 0 329 [(0, .inr (.inr x0)), (1, .inl x1)] [] := by
  unfold k_X9_cause_329 at h
  refine Vw.aload_n (pc := 329) (x := x0) K dX9_cause_329 rfl ?_
  obtain ⟨g1, h⟩ := wgd h
  obtain ⟨v3, e2, h⟩ := wbd h
  refine Vw.cV1 (pc := 330) (v := .inl v3) (c' := 0) (n' := 0) K (s_X9_elder K.tr e2) cal_X9_elder cls7 u_7_117 g1 rfl ⟨by decide, by decide⟩ ⟨by decide, by decide⟩ rfl (Nat.le_of_ble_eq_true rfl) dX9_cause_330 rfl rfl ?_
  refine Vw.istore (pc := 333) K dX9_cause_333 (by decide) ?_
  refine Vw.iload_n (pc := 335) (x := x1) K dX9_cause_335 rfl ?_
  refine Vw.if_eq (pc := 336) (tgt := 367) K dX9_cause_336 (by decide) (fun c4 => ?_) (fun c4 => ?_)
  · have h := wpos c4 h
    refine Vw.iconst (pc := 367) (v := (0 : Int32)) K (by decide) dX9_cause_367 ?_
    exact Vw.iretE (pc := 368) K (Option.some.inj h) rfl E (by decide) (by decide) dX9_cause_368
  · have h := wneg c4 h
    refine Vw.iload (pc := 339) (x := v3) K dX9_cause_339 rfl ?_
    refine Vw.if_lt (pc := 341) (tgt := 367) K dX9_cause_341 (by decide) (fun c5 => ?_) (fun c5 => ?_)
    · have h := wpos c5 h
      refine Vw.iconst (pc := 367) (v := (0 : Int32)) K (by decide) dX9_cause_367 ?_
      exact Vw.iretE (pc := 368) K (Option.some.inj h) rfl E (by decide) (by decide) dX9_cause_368
    · have h := wneg c5 h
      refine Vw.aload_n (pc := 344) (x := x0) K dX9_cause_344 rfl ?_
      refine Vw.getR (pc := 345) (k := 0) (f := 448) K cls7 rfl rfl u_6_17 g1 dX9_cause_345 ?_
      refine Vw.iload (pc := 348) (x := v3) K dX9_cause_348 rfl ?_
      obtain ⟨v7, e6, h⟩ := wbd h
      refine Vw.cS1 (pc := 350) (v := .inl v7) (c' := 0) (n' := 0) K (s_X9_cookie K.tr e6) cal_X9_cookie u_7_102 rfl ⟨by decide, by decide⟩ ⟨by decide, by decide⟩ rfl (Nat.le_of_ble_eq_true rfl) dX9_cause_350 rfl rfl ?_
      refine Vw.bipush (pc := 353) (v := (10 : Int32)) K (by decide) dX9_cause_353 ?_
      refine Vw.iadd (pc := 355) K dX9_cause_355 ?_
      obtain ⟨g8, h⟩ := wgd h
      obtain ⟨g9, h⟩ := wgd h
      refine Vw.laload (pc := 356) K g8 g9 dX9_cause_356 ?_
      refine Vw.lconst (pc := 357) (v := (1 : Int64)) K (by decide) dX9_cause_357 ?_
      refine Vw.lcmp_ne (pc := 358) (tgt := 367) K dX9_cause_358 dX9_cause_359 (by decide) (fun c10 => ?_) (fun c10 => ?_)
      · have h := wneg c10 h
        refine Vw.iconst (pc := 367) (v := (0 : Int32)) K (by decide) dX9_cause_367 ?_
        exact Vw.iretE (pc := 368) K (Option.some.inj h) rfl E (by decide) (by decide) dX9_cause_368
      · have h := wpos c10 h
        refine Vw.bipush (pc := 362) (v := (62 : Int32)) K (by decide) dX9_cause_362 ?_
        refine Vw.goto (pc := 364) (tgt := 368) K dX9_cause_364 (by decide) ?_
        exact Vw.iretE (pc := 368) K (Option.some.inj h) rfl E (by decide) (by decide) dX9_cause_368
def k_X9_cause_284  (A : Hp) (x0 : Nat) (x1 : Int32) (x3 : Int32) (t0 : Int32) : Option (Int32) := if (hsh A x0).1 = 8 then ((f_X9_begins A x0 (8614 : Int32) (hgI A 483 x0 0) (hgR A 470 x0 0)).bind fun v13 => (if v13 = (0 : Int32) then k_X9_cause_329 A x0 x1 else (if x3 = (0 : Int32) then some (42 : Int32) else if (hsh A (hgR A 448 x0 0)).1 = 11 then if wix (8608 : Int32) (hsh A (hgR A 448 x0 0)).2 then (if (hgL A 1035 (hgR A 448 x0 0) (8608 : Int32).toNatClampNeg) = (1 : Int64) then (if t0 = (0 : Int32) then some (42 : Int32) else k_X9_cause_329 A x0 x1) else some (42 : Int32)) else none else none))) else none
set_option maxRecDepth 100000 in
theorem s_X9_cause_284 {κ : KT} {r : Int32} {A : Hp} {x0 : Nat} {x1 : Int32} {x3 : Int32} {t0 : Int32}  (K : Cx κ cX9_cause 7 RX9 4 98 0 0) (E : Ed κ (some .int) "cause" (.inl (some (.inl r))) A 0 0)  (h : k_X9_cause_284  A x0 x1 x3 t0 = some r) : Vw κ A 0 0 284 [(0, .inr (.inr x0)), (1, .inl x1), (3, .inl x3)] [.inl t0] := by
  unfold k_X9_cause_284 at h
  refine Vw.istore (pc := 284) K dX9_cause_284 (by decide) ?_
  refine Vw.aload_n (pc := 286) (x := x0) K dX9_cause_286 rfl ?_
  refine Vw.sipush (pc := 287) (v := (8614 : Int32)) K (by decide) dX9_cause_287 ?_
  refine Vw.aload_n (pc := 290) (x := x0) K dX9_cause_290 rfl ?_
  obtain ⟨g11, h⟩ := wgd h
  refine Vw.getI (pc := 291) (k := 35) (f := 483) K cls7 rfl rfl u_6_52 g11 dX9_cause_291 ?_
  refine Vw.aload_n (pc := 294) (x := x0) K dX9_cause_294 rfl ?_
  refine Vw.getR (pc := 295) (k := 22) (f := 470) K cls7 rfl rfl u_6_39 g11 dX9_cause_295 ?_
  obtain ⟨v13, e12, h⟩ := wbd h
  refine Vw.cV1 (pc := 298) (v := .inl v13) (c' := 0) (n' := 0) K (s_X9_begins K.tr e12) cal_X9_begins cls7 u_7_113 g11 rfl ⟨by decide, by decide⟩ ⟨by decide, by decide⟩ rfl (Nat.le_of_ble_eq_true rfl) dX9_cause_298 rfl rfl ?_
  refine Vw.if_eq (pc := 301) (tgt := 329) K dX9_cause_301 (by decide) (fun c14 => ?_) (fun c14 => ?_)
  · have h := wpos c14 h
    exact Vw.loc rfl (s_X9_cause_329 K E  h)
  · have h := wneg c14 h
    refine Vw.iload_n (pc := 304) (x := x3) K dX9_cause_304 rfl ?_
    refine Vw.if_eq (pc := 305) (tgt := 326) K dX9_cause_305 (by decide) (fun c15 => ?_) (fun c15 => ?_)
    · have h := wpos c15 h
      refine Vw.bipush (pc := 326) (v := (42 : Int32)) K (by decide) dX9_cause_326 ?_
      exact Vw.iretE (pc := 328) K (Option.some.inj h) rfl E (by decide) (by decide) dX9_cause_328
    · have h := wneg c15 h
      refine Vw.aload_n (pc := 308) (x := x0) K dX9_cause_308 rfl ?_
      refine Vw.getR (pc := 309) (k := 0) (f := 448) K cls7 rfl rfl u_6_17 g11 dX9_cause_309 ?_
      refine Vw.sipush (pc := 312) (v := (8608 : Int32)) K (by decide) dX9_cause_312 ?_
      obtain ⟨g16, h⟩ := wgd h
      obtain ⟨g17, h⟩ := wgd h
      refine Vw.laload (pc := 315) K g16 g17 dX9_cause_315 ?_
      refine Vw.lconst (pc := 316) (v := (1 : Int64)) K (by decide) dX9_cause_316 ?_
      refine Vw.lcmp_ne (pc := 317) (tgt := 326) K dX9_cause_317 dX9_cause_318 (by decide) (fun c18 => ?_) (fun c18 => ?_)
      · have h := wneg c18 h
        refine Vw.bipush (pc := 326) (v := (42 : Int32)) K (by decide) dX9_cause_326 ?_
        exact Vw.iretE (pc := 328) K (Option.some.inj h) rfl E (by decide) (by decide) dX9_cause_328
      · have h := wpos c18 h
        refine Vw.iload (pc := 321) (x := t0) K dX9_cause_321 rfl ?_
        refine Vw.if_ne (pc := 323) (tgt := 329) K dX9_cause_323 (by decide) (fun c19 => ?_) (fun c19 => ?_)
        · have h := wneg c19 h
          exact Vw.loc rfl (s_X9_cause_329 K E  h)
        · have h := wpos c19 h
          refine Vw.bipush (pc := 326) (v := (42 : Int32)) K (by decide) dX9_cause_326 ?_
          exact Vw.iretE (pc := 328) K (Option.some.inj h) rfl E (by decide) (by decide) dX9_cause_328
def k_X9_cause_266  (A : Hp) (x0 : Nat) (x1 : Int32) (x3 : Int32)  : Option (Int32) := if (hsh A x0).1 = 8 then if (hsh A (hgR A 448 x0 0)).1 = 11 then if wix (8603 : Int32) (hsh A (hgR A 448 x0 0)).2 then (if (hgL A 1035 (hgR A 448 x0 0) (8603 : Int32).toNatClampNeg) = (1 : Int64) then k_X9_cause_284 A x0 x1 x3 (1 : Int32) else k_X9_cause_284 A x0 x1 x3 (0 : Int32)) else none else none else none
set_option maxRecDepth 100000 in
theorem s_X9_cause_266 {κ : KT} {r : Int32} {A : Hp} {x0 : Nat} {x1 : Int32} {x3 : Int32}   (K : Cx κ cX9_cause 7 RX9 4 98 0 0) (E : Ed κ (some .int) "cause" (.inl (some (.inl r))) A 0 0)  (h : k_X9_cause_266  A x0 x1 x3  = some r) : Vw κ A 0 0 266 [(0, .inr (.inr x0)), (1, .inl x1), (3, .inl x3)] [] := by
  unfold k_X9_cause_266 at h
  refine Vw.aload_n (pc := 266) (x := x0) K dX9_cause_266 rfl ?_
  obtain ⟨g20, h⟩ := wgd h
  refine Vw.getR (pc := 267) (k := 0) (f := 448) K cls7 rfl rfl u_6_17 g20 dX9_cause_267 ?_
  refine Vw.sipush (pc := 270) (v := (8603 : Int32)) K (by decide) dX9_cause_270 ?_
  obtain ⟨g21, h⟩ := wgd h
  obtain ⟨g22, h⟩ := wgd h
  refine Vw.laload (pc := 273) K g21 g22 dX9_cause_273 ?_
  refine Vw.lconst (pc := 274) (v := (1 : Int64)) K (by decide) dX9_cause_274 ?_
  refine Vw.lcmp_ne (pc := 275) (tgt := 283) K dX9_cause_275 dX9_cause_276 (by decide) (fun c23 => ?_) (fun c23 => ?_)
  · have h := wneg c23 h
    refine Vw.iconst (pc := 283) (v := (0 : Int32)) K (by decide) dX9_cause_283 ?_
    exact Vw.loc rfl (s_X9_cause_284 K E  h)
  · have h := wpos c23 h
    refine Vw.iconst (pc := 279) (v := (1 : Int32)) K (by decide) dX9_cause_279 ?_
    refine Vw.goto (pc := 280) (tgt := 284) K dX9_cause_280 (by decide) ?_
    exact Vw.loc rfl (s_X9_cause_284 K E  h)
def k_X9_cause_241  (A : Hp) (x0 : Nat) (x1 : Int32) (x3 : Int32)  : Option (Int32) := if (hsh A x0).1 = 8 then ((f_X9_begins A x0 (8614 : Int32) (hgI A 483 x0 0) (hgR A 469 x0 0)).bind fun v26 => (if v26 = (0 : Int32) then k_X9_cause_266 A x0 x1 x3 else (if x3 = (0 : Int32) then some (41 : Int32) else k_X9_cause_266 A x0 x1 x3))) else none
set_option maxRecDepth 100000 in
theorem s_X9_cause_241 {κ : KT} {r : Int32} {A : Hp} {x0 : Nat} {x1 : Int32} {x3 : Int32}   (K : Cx κ cX9_cause 7 RX9 4 98 0 0) (E : Ed κ (some .int) "cause" (.inl (some (.inl r))) A 0 0)  (h : k_X9_cause_241  A x0 x1 x3  = some r) : Vw κ A 0 0 241 [(0, .inr (.inr x0)), (1, .inl x1), (3, .inl x3)] [] := by
  unfold k_X9_cause_241 at h
  refine Vw.aload_n (pc := 241) (x := x0) K dX9_cause_241 rfl ?_
  refine Vw.sipush (pc := 242) (v := (8614 : Int32)) K (by decide) dX9_cause_242 ?_
  refine Vw.aload_n (pc := 245) (x := x0) K dX9_cause_245 rfl ?_
  obtain ⟨g24, h⟩ := wgd h
  refine Vw.getI (pc := 246) (k := 35) (f := 483) K cls7 rfl rfl u_6_52 g24 dX9_cause_246 ?_
  refine Vw.aload_n (pc := 249) (x := x0) K dX9_cause_249 rfl ?_
  refine Vw.getR (pc := 250) (k := 21) (f := 469) K cls7 rfl rfl u_6_38 g24 dX9_cause_250 ?_
  obtain ⟨v26, e25, h⟩ := wbd h
  refine Vw.cV1 (pc := 253) (v := .inl v26) (c' := 0) (n' := 0) K (s_X9_begins K.tr e25) cal_X9_begins cls7 u_7_113 g24 rfl ⟨by decide, by decide⟩ ⟨by decide, by decide⟩ rfl (Nat.le_of_ble_eq_true rfl) dX9_cause_253 rfl rfl ?_
  refine Vw.if_eq (pc := 256) (tgt := 266) K dX9_cause_256 (by decide) (fun c27 => ?_) (fun c27 => ?_)
  · have h := wpos c27 h
    exact Vw.loc rfl (s_X9_cause_266 K E  h)
  · have h := wneg c27 h
    refine Vw.iload_n (pc := 259) (x := x3) K dX9_cause_259 rfl ?_
    refine Vw.if_ne (pc := 260) (tgt := 266) K dX9_cause_260 (by decide) (fun c28 => ?_) (fun c28 => ?_)
    · have h := wneg c28 h
      exact Vw.loc rfl (s_X9_cause_266 K E  h)
    · have h := wpos c28 h
      refine Vw.bipush (pc := 263) (v := (41 : Int32)) K (by decide) dX9_cause_263 ?_
      exact Vw.iretE (pc := 265) K (Option.some.inj h) rfl E (by decide) (by decide) dX9_cause_265
def k_X9_cause_221  (A : Hp) (x0 : Nat) (x1 : Int32) (x3 : Int32)  : Option (Int32) := if (hsh A x0).1 = 8 then if (hsh A (hgR A 448 x0 0)).1 = 11 then if wix (8611 : Int32) (hsh A (hgR A 448 x0 0)).2 then (if (hgL A 1035 (hgR A 448 x0 0) (8611 : Int32).toNatClampNeg) = (0 : Int64) then (if x3 = (0 : Int32) then some (51 : Int32) else k_X9_cause_241 A x0 x1 x3) else k_X9_cause_241 A x0 x1 x3) else none else none else none
set_option maxRecDepth 100000 in
theorem s_X9_cause_221 {κ : KT} {r : Int32} {A : Hp} {x0 : Nat} {x1 : Int32} {x3 : Int32}   (K : Cx κ cX9_cause 7 RX9 4 98 0 0) (E : Ed κ (some .int) "cause" (.inl (some (.inl r))) A 0 0)  (h : k_X9_cause_221  A x0 x1 x3  = some r) : Vw κ A 0 0 221 [(0, .inr (.inr x0)), (1, .inl x1), (3, .inl x3)] [] := by
  unfold k_X9_cause_221 at h
  refine Vw.aload_n (pc := 221) (x := x0) K dX9_cause_221 rfl ?_
  obtain ⟨g29, h⟩ := wgd h
  refine Vw.getR (pc := 222) (k := 0) (f := 448) K cls7 rfl rfl u_6_17 g29 dX9_cause_222 ?_
  refine Vw.sipush (pc := 225) (v := (8611 : Int32)) K (by decide) dX9_cause_225 ?_
  obtain ⟨g30, h⟩ := wgd h
  obtain ⟨g31, h⟩ := wgd h
  refine Vw.laload (pc := 228) K g30 g31 dX9_cause_228 ?_
  refine Vw.lconst (pc := 229) (v := (0 : Int64)) K (by decide) dX9_cause_229 ?_
  refine Vw.lcmp_ne (pc := 230) (tgt := 241) K dX9_cause_230 dX9_cause_231 (by decide) (fun c32 => ?_) (fun c32 => ?_)
  · have h := wneg c32 h
    exact Vw.loc rfl (s_X9_cause_241 K E  h)
  · have h := wpos c32 h
    refine Vw.iload_n (pc := 234) (x := x3) K dX9_cause_234 rfl ?_
    refine Vw.if_ne (pc := 235) (tgt := 241) K dX9_cause_235 (by decide) (fun c33 => ?_) (fun c33 => ?_)
    · have h := wneg c33 h
      exact Vw.loc rfl (s_X9_cause_241 K E  h)
    · have h := wpos c33 h
      refine Vw.bipush (pc := 238) (v := (51 : Int32)) K (by decide) dX9_cause_238 ?_
      exact Vw.iretE (pc := 240) K (Option.some.inj h) rfl E (by decide) (by decide) dX9_cause_240
def k_X9_cause_202  (A : Hp) (x0 : Nat) (x1 : Int32) (x3 : Int32) (x4 : Int32)  : Option (Int32) := (if x3 = (0 : Int32) then (if x4 = (0 : Int32) then k_X9_cause_221 A x0 x1 x3 else if (hsh A x0).1 = 8 then ((f_X9_hides A x0).bind fun v38 => (if v38 = (0 : Int32) then k_X9_cause_221 A x0 x1 x3 else some (32 : Int32))) else none) else k_X9_cause_221 A x0 x1 x3)
set_option maxRecDepth 100000 in
theorem s_X9_cause_202 {κ : KT} {r : Int32} {A : Hp} {x0 : Nat} {x1 : Int32} {x3 : Int32} {x4 : Int32}   (K : Cx κ cX9_cause 7 RX9 4 98 0 0) (E : Ed κ (some .int) "cause" (.inl (some (.inl r))) A 0 0)  (h : k_X9_cause_202  A x0 x1 x3 x4  = some r) : Vw κ A 0 0 202 [(0, .inr (.inr x0)), (1, .inl x1), (3, .inl x3), (4, .inl x4)] [] := by
  unfold k_X9_cause_202 at h
  refine Vw.iload_n (pc := 202) (x := x3) K dX9_cause_202 rfl ?_
  refine Vw.if_ne (pc := 203) (tgt := 221) K dX9_cause_203 (by decide) (fun c34 => ?_) (fun c34 => ?_)
  · have h := wneg c34 h
    exact Vw.loc rfl (s_X9_cause_221 K E  h)
  · have h := wpos c34 h
    refine Vw.iload (pc := 206) (x := x4) K dX9_cause_206 rfl ?_
    refine Vw.if_eq (pc := 208) (tgt := 221) K dX9_cause_208 (by decide) (fun c35 => ?_) (fun c35 => ?_)
    · have h := wpos c35 h
      exact Vw.loc rfl (s_X9_cause_221 K E  h)
    · have h := wneg c35 h
      refine Vw.aload_n (pc := 211) (x := x0) K dX9_cause_211 rfl ?_
      obtain ⟨g36, h⟩ := wgd h
      obtain ⟨v38, e37, h⟩ := wbd h
      refine Vw.cV1 (pc := 212) (v := .inl v38) (c' := 0) (n' := 0) K (s_X9_hides K.tr e37) cal_X9_hides cls7 u_7_98 g36 rfl ⟨by decide, by decide⟩ ⟨by decide, by decide⟩ rfl (Nat.le_of_ble_eq_true rfl) dX9_cause_212 rfl rfl ?_
      refine Vw.if_eq (pc := 215) (tgt := 221) K dX9_cause_215 (by decide) (fun c39 => ?_) (fun c39 => ?_)
      · have h := wpos c39 h
        exact Vw.loc rfl (s_X9_cause_221 K E  h)
      · have h := wneg c39 h
        refine Vw.bipush (pc := 218) (v := (32 : Int32)) K (by decide) dX9_cause_218 ?_
        exact Vw.iretE (pc := 220) K (Option.some.inj h) rfl E (by decide) (by decide) dX9_cause_220
def k_X9_cause_182  (A : Hp) (x0 : Nat) (x1 : Int32) (x3 : Int32) (x4 : Int32)  : Option (Int32) := if (hsh A x0).1 = 8 then if (hsh A (hgR A 448 x0 0)).1 = 11 then if wix (8610 : Int32) (hsh A (hgR A 448 x0 0)).2 then (if (hgL A 1035 (hgR A 448 x0 0) (8610 : Int32).toNatClampNeg) = (1 : Int64) then (if x1 = (0 : Int32) then k_X9_cause_202 A x0 x1 x3 x4 else some (61 : Int32)) else k_X9_cause_202 A x0 x1 x3 x4) else none else none else none
set_option maxRecDepth 100000 in
theorem s_X9_cause_182 {κ : KT} {r : Int32} {A : Hp} {x0 : Nat} {x1 : Int32} {x3 : Int32} {x4 : Int32}   (K : Cx κ cX9_cause 7 RX9 4 98 0 0) (E : Ed κ (some .int) "cause" (.inl (some (.inl r))) A 0 0)  (h : k_X9_cause_182  A x0 x1 x3 x4  = some r) : Vw κ A 0 0 182 [(0, .inr (.inr x0)), (1, .inl x1), (3, .inl x3), (4, .inl x4)] [] := by
  unfold k_X9_cause_182 at h
  refine Vw.aload_n (pc := 182) (x := x0) K dX9_cause_182 rfl ?_
  obtain ⟨g40, h⟩ := wgd h
  refine Vw.getR (pc := 183) (k := 0) (f := 448) K cls7 rfl rfl u_6_17 g40 dX9_cause_183 ?_
  refine Vw.sipush (pc := 186) (v := (8610 : Int32)) K (by decide) dX9_cause_186 ?_
  obtain ⟨g41, h⟩ := wgd h
  obtain ⟨g42, h⟩ := wgd h
  refine Vw.laload (pc := 189) K g41 g42 dX9_cause_189 ?_
  refine Vw.lconst (pc := 190) (v := (1 : Int64)) K (by decide) dX9_cause_190 ?_
  refine Vw.lcmp_ne (pc := 191) (tgt := 202) K dX9_cause_191 dX9_cause_192 (by decide) (fun c43 => ?_) (fun c43 => ?_)
  · have h := wneg c43 h
    exact Vw.loc rfl (s_X9_cause_202 K E  h)
  · have h := wpos c43 h
    refine Vw.iload_n (pc := 195) (x := x1) K dX9_cause_195 rfl ?_
    refine Vw.if_eq (pc := 196) (tgt := 202) K dX9_cause_196 (by decide) (fun c44 => ?_) (fun c44 => ?_)
    · have h := wpos c44 h
      exact Vw.loc rfl (s_X9_cause_202 K E  h)
    · have h := wneg c44 h
      refine Vw.bipush (pc := 199) (v := (61 : Int32)) K (by decide) dX9_cause_199 ?_
      exact Vw.iretE (pc := 201) K (Option.some.inj h) rfl E (by decide) (by decide) dX9_cause_201
def k_X9_cause_168  (A : Hp) (x0 : Nat) (x1 : Int32) (x3 : Int32) (t0 : Int32) : Option (Int32) := (if x3 = (0 : Int32) then k_X9_cause_182 A x0 x1 x3 t0 else (if t0 = (0 : Int32) then k_X9_cause_182 A x0 x1 x3 t0 else some (31 : Int32)))
set_option maxRecDepth 100000 in
theorem s_X9_cause_168 {κ : KT} {r : Int32} {A : Hp} {x0 : Nat} {x1 : Int32} {x3 : Int32} {t0 : Int32}  (K : Cx κ cX9_cause 7 RX9 4 98 0 0) (E : Ed κ (some .int) "cause" (.inl (some (.inl r))) A 0 0)  (h : k_X9_cause_168  A x0 x1 x3 t0 = some r) : Vw κ A 0 0 168 [(0, .inr (.inr x0)), (1, .inl x1), (3, .inl x3)] [.inl t0] := by
  unfold k_X9_cause_168 at h
  refine Vw.istore (pc := 168) K dX9_cause_168 (by decide) ?_
  refine Vw.iload_n (pc := 170) (x := x3) K dX9_cause_170 rfl ?_
  refine Vw.if_eq (pc := 171) (tgt := 182) K dX9_cause_171 (by decide) (fun c45 => ?_) (fun c45 => ?_)
  · have h := wpos c45 h
    exact Vw.loc rfl (s_X9_cause_182 K E  h)
  · have h := wneg c45 h
    refine Vw.iload (pc := 174) (x := t0) K dX9_cause_174 rfl ?_
    refine Vw.if_eq (pc := 176) (tgt := 182) K dX9_cause_176 (by decide) (fun c46 => ?_) (fun c46 => ?_)
    · have h := wpos c46 h
      exact Vw.loc rfl (s_X9_cause_182 K E  h)
    · have h := wneg c46 h
      refine Vw.bipush (pc := 179) (v := (31 : Int32)) K (by decide) dX9_cause_179 ?_
      exact Vw.iretE (pc := 181) K (Option.some.inj h) rfl E (by decide) (by decide) dX9_cause_181
def k_X9_cause_150  (A : Hp) (x0 : Nat) (x1 : Int32) (t0 : Int32) : Option (Int32) := if (hsh A x0).1 = 8 then if (hsh A (hgR A 448 x0 0)).1 = 11 then if wix (101 : Int32) (hsh A (hgR A 448 x0 0)).2 then (if (hgL A 1035 (hgR A 448 x0 0) (101 : Int32).toNatClampNeg) = (0 : Int64) then k_X9_cause_168 A x0 x1 t0 (1 : Int32) else k_X9_cause_168 A x0 x1 t0 (0 : Int32)) else none else none else none
set_option maxRecDepth 100000 in
theorem s_X9_cause_150 {κ : KT} {r : Int32} {A : Hp} {x0 : Nat} {x1 : Int32} {t0 : Int32}  (K : Cx κ cX9_cause 7 RX9 4 98 0 0) (E : Ed κ (some .int) "cause" (.inl (some (.inl r))) A 0 0)  (h : k_X9_cause_150  A x0 x1 t0 = some r) : Vw κ A 0 0 150 [(0, .inr (.inr x0)), (1, .inl x1)] [.inl t0] := by
  unfold k_X9_cause_150 at h
  refine Vw.istore_n (pc := 150) K dX9_cause_150 (by decide) ?_
  refine Vw.aload_n (pc := 151) (x := x0) K dX9_cause_151 rfl ?_
  obtain ⟨g47, h⟩ := wgd h
  refine Vw.getR (pc := 152) (k := 0) (f := 448) K cls7 rfl rfl u_6_17 g47 dX9_cause_152 ?_
  refine Vw.bipush (pc := 155) (v := (101 : Int32)) K (by decide) dX9_cause_155 ?_
  obtain ⟨g48, h⟩ := wgd h
  obtain ⟨g49, h⟩ := wgd h
  refine Vw.laload (pc := 157) K g48 g49 dX9_cause_157 ?_
  refine Vw.lconst (pc := 158) (v := (0 : Int64)) K (by decide) dX9_cause_158 ?_
  refine Vw.lcmp_ne (pc := 159) (tgt := 167) K dX9_cause_159 dX9_cause_160 (by decide) (fun c50 => ?_) (fun c50 => ?_)
  · have h := wneg c50 h
    refine Vw.iconst (pc := 167) (v := (0 : Int32)) K (by decide) dX9_cause_167 ?_
    exact Vw.loc rfl (s_X9_cause_168 K E  h)
  · have h := wpos c50 h
    refine Vw.iconst (pc := 163) (v := (1 : Int32)) K (by decide) dX9_cause_163 ?_
    refine Vw.goto (pc := 164) (tgt := 168) K dX9_cause_164 (by decide) ?_
    exact Vw.loc rfl (s_X9_cause_168 K E  h)
def k_X9_cause_132  (A : Hp) (x0 : Nat) (x1 : Int32)  : Option (Int32) := if (hsh A x0).1 = 8 then if (hsh A (hgR A 448 x0 0)).1 = 11 then if wix (8609 : Int32) (hsh A (hgR A 448 x0 0)).2 then (if (hgL A 1035 (hgR A 448 x0 0) (8609 : Int32).toNatClampNeg) = (1 : Int64) then k_X9_cause_150 A x0 x1 (1 : Int32) else k_X9_cause_150 A x0 x1 (0 : Int32)) else none else none else none
set_option maxRecDepth 100000 in
theorem s_X9_cause_132 {κ : KT} {r : Int32} {A : Hp} {x0 : Nat} {x1 : Int32}   (K : Cx κ cX9_cause 7 RX9 4 98 0 0) (E : Ed κ (some .int) "cause" (.inl (some (.inl r))) A 0 0)  (h : k_X9_cause_132  A x0 x1  = some r) : Vw κ A 0 0 132 [(0, .inr (.inr x0)), (1, .inl x1)] [] := by
  unfold k_X9_cause_132 at h
  refine Vw.aload_n (pc := 132) (x := x0) K dX9_cause_132 rfl ?_
  obtain ⟨g51, h⟩ := wgd h
  refine Vw.getR (pc := 133) (k := 0) (f := 448) K cls7 rfl rfl u_6_17 g51 dX9_cause_133 ?_
  refine Vw.sipush (pc := 136) (v := (8609 : Int32)) K (by decide) dX9_cause_136 ?_
  obtain ⟨g52, h⟩ := wgd h
  obtain ⟨g53, h⟩ := wgd h
  refine Vw.laload (pc := 139) K g52 g53 dX9_cause_139 ?_
  refine Vw.lconst (pc := 140) (v := (1 : Int64)) K (by decide) dX9_cause_140 ?_
  refine Vw.lcmp_ne (pc := 141) (tgt := 149) K dX9_cause_141 dX9_cause_142 (by decide) (fun c54 => ?_) (fun c54 => ?_)
  · have h := wneg c54 h
    refine Vw.iconst (pc := 149) (v := (0 : Int32)) K (by decide) dX9_cause_149 ?_
    exact Vw.loc rfl (s_X9_cause_150 K E  h)
  · have h := wpos c54 h
    refine Vw.iconst (pc := 145) (v := (1 : Int32)) K (by decide) dX9_cause_145 ?_
    refine Vw.goto (pc := 146) (tgt := 150) K dX9_cause_146 (by decide) ?_
    exact Vw.loc rfl (s_X9_cause_150 K E  h)
def k_X9_cause_102  (A : Hp) (x0 : Nat) (x1 : Int32)  : Option (Int32) := if (hsh A x0).1 = 8 then (if (hgI A 476 x0 0) = (0 : Int32) then k_X9_cause_132 A x0 x1 else ((f_X9_hostLong A x0).bind fun v58 => ((f_X9_matches A x0 (104 : Int32) v58 (8800 : Int32) (hgI A 477 x0 0)).bind fun v60 => (if v60 = (0 : Int32) then some (22 : Int32) else k_X9_cause_132 A x0 x1)))) else none
set_option maxRecDepth 100000 in
theorem s_X9_cause_102 {κ : KT} {r : Int32} {A : Hp} {x0 : Nat} {x1 : Int32}   (K : Cx κ cX9_cause 7 RX9 4 98 0 0) (E : Ed κ (some .int) "cause" (.inl (some (.inl r))) A 0 0)  (h : k_X9_cause_102  A x0 x1  = some r) : Vw κ A 0 0 102 [(0, .inr (.inr x0)), (1, .inl x1)] [] := by
  unfold k_X9_cause_102 at h
  refine Vw.aload_n (pc := 102) (x := x0) K dX9_cause_102 rfl ?_
  obtain ⟨g55, h⟩ := wgd h
  refine Vw.getI (pc := 103) (k := 28) (f := 476) K cls7 rfl rfl u_6_45 g55 dX9_cause_103 ?_
  refine Vw.if_eq (pc := 106) (tgt := 132) K dX9_cause_106 (by decide) (fun c56 => ?_) (fun c56 => ?_)
  · have h := wpos c56 h
    exact Vw.loc rfl (s_X9_cause_132 K E  h)
  · have h := wneg c56 h
    refine Vw.aload_n (pc := 109) (x := x0) K dX9_cause_109 rfl ?_
    refine Vw.bipush (pc := 110) (v := (104 : Int32)) K (by decide) dX9_cause_110 ?_
    refine Vw.aload_n (pc := 112) (x := x0) K dX9_cause_112 rfl ?_
    obtain ⟨v58, e57, h⟩ := wbd h
    refine Vw.cV1 (pc := 113) (v := .inl v58) (c' := 0) (n' := 0) K (s_X9_hostLong K.tr e57) cal_X9_hostLong cls7 u_6_218 g55 rfl ⟨by decide, by decide⟩ ⟨by decide, by decide⟩ rfl (Nat.le_of_ble_eq_true rfl) dX9_cause_113 rfl rfl ?_
    refine Vw.sipush (pc := 116) (v := (8800 : Int32)) K (by decide) dX9_cause_116 ?_
    refine Vw.aload_n (pc := 119) (x := x0) K dX9_cause_119 rfl ?_
    refine Vw.getI (pc := 120) (k := 29) (f := 477) K cls7 rfl rfl u_6_46 g55 dX9_cause_120 ?_
    obtain ⟨v60, e59, h⟩ := wbd h
    refine Vw.cV1 (pc := 123) (v := .inl v60) (c' := 0) (n' := 0) K (s_X9_matches K.tr e59) cal_X9_matches cls7 u_6_198 g55 rfl ⟨by decide, by decide⟩ ⟨by decide, by decide⟩ rfl (Nat.le_of_ble_eq_true rfl) dX9_cause_123 rfl rfl ?_
    refine Vw.if_ne (pc := 126) (tgt := 132) K dX9_cause_126 (by decide) (fun c61 => ?_) (fun c61 => ?_)
    · have h := wneg c61 h
      exact Vw.loc rfl (s_X9_cause_132 K E  h)
    · have h := wpos c61 h
      refine Vw.bipush (pc := 129) (v := (22 : Int32)) K (by decide) dX9_cause_129 ?_
      exact Vw.iretE (pc := 131) K (Option.some.inj h) rfl E (by decide) (by decide) dX9_cause_131
def k_X9_cause_73  (A : Hp) (x0 : Nat) (x1 : Int32) (t0 : Int32) : Option (Int32) := if (hsh A x0).1 = 8 then (if (hgI A 476 x0 0) = (0 : Int32) then k_X9_cause_102 A x0 x1 else ((f_X9_isPublic A x0 (8800 : Int32) (hgI A 477 x0 0)).bind fun v65 => (if v65 = (0 : Int32) then k_X9_cause_102 A x0 x1 else (if t0 = (0 : Int32) then some (21 : Int32) else k_X9_cause_102 A x0 x1)))) else none
set_option maxRecDepth 100000 in
theorem s_X9_cause_73 {κ : KT} {r : Int32} {A : Hp} {x0 : Nat} {x1 : Int32} {t0 : Int32}  (K : Cx κ cX9_cause 7 RX9 4 98 0 0) (E : Ed κ (some .int) "cause" (.inl (some (.inl r))) A 0 0)  (h : k_X9_cause_73  A x0 x1 t0 = some r) : Vw κ A 0 0 73 [(0, .inr (.inr x0)), (1, .inl x1)] [.inl t0] := by
  unfold k_X9_cause_73 at h
  refine Vw.istore_n (pc := 73) K dX9_cause_73 (by decide) ?_
  refine Vw.aload_n (pc := 74) (x := x0) K dX9_cause_74 rfl ?_
  obtain ⟨g62, h⟩ := wgd h
  refine Vw.getI (pc := 75) (k := 28) (f := 476) K cls7 rfl rfl u_6_45 g62 dX9_cause_75 ?_
  refine Vw.if_eq (pc := 78) (tgt := 102) K dX9_cause_78 (by decide) (fun c63 => ?_) (fun c63 => ?_)
  · have h := wpos c63 h
    exact Vw.loc rfl (s_X9_cause_102 K E  h)
  · have h := wneg c63 h
    refine Vw.aload_n (pc := 81) (x := x0) K dX9_cause_81 rfl ?_
    refine Vw.sipush (pc := 82) (v := (8800 : Int32)) K (by decide) dX9_cause_82 ?_
    refine Vw.aload_n (pc := 85) (x := x0) K dX9_cause_85 rfl ?_
    refine Vw.getI (pc := 86) (k := 29) (f := 477) K cls7 rfl rfl u_6_46 g62 dX9_cause_86 ?_
    obtain ⟨v65, e64, h⟩ := wbd h
    refine Vw.cV1 (pc := 89) (v := .inl v65) (c' := 0) (n' := 0) K (s_X9_isPublic K.tr e64) cal_X9_isPublic cls7 u_7_90 g62 rfl ⟨by decide, by decide⟩ ⟨by decide, by decide⟩ rfl (Nat.le_of_ble_eq_true rfl) dX9_cause_89 rfl rfl ?_
    refine Vw.if_eq (pc := 92) (tgt := 102) K dX9_cause_92 (by decide) (fun c66 => ?_) (fun c66 => ?_)
    · have h := wpos c66 h
      exact Vw.loc rfl (s_X9_cause_102 K E  h)
    · have h := wneg c66 h
      refine Vw.iload_n (pc := 95) (x := t0) K dX9_cause_95 rfl ?_
      refine Vw.if_ne (pc := 96) (tgt := 102) K dX9_cause_96 (by decide) (fun c67 => ?_) (fun c67 => ?_)
      · have h := wneg c67 h
        exact Vw.loc rfl (s_X9_cause_102 K E  h)
      · have h := wpos c67 h
        refine Vw.bipush (pc := 99) (v := (21 : Int32)) K (by decide) dX9_cause_99 ?_
        exact Vw.iretE (pc := 101) K (Option.some.inj h) rfl E (by decide) (by decide) dX9_cause_101
def k_X9_cause_72  (A : Hp) (x0 : Nat) (x1 : Int32)  : Option (Int32) := k_X9_cause_73 A x0 x1 (0 : Int32)
set_option maxRecDepth 100000 in
theorem s_X9_cause_72 {κ : KT} {r : Int32} {A : Hp} {x0 : Nat} {x1 : Int32}   (K : Cx κ cX9_cause 7 RX9 4 98 0 0) (E : Ed κ (some .int) "cause" (.inl (some (.inl r))) A 0 0)  (h : k_X9_cause_72  A x0 x1  = some r) : Vw κ A 0 0 72 [(0, .inr (.inr x0)), (1, .inl x1)] [] := by
  unfold k_X9_cause_72 at h
  refine Vw.iconst (pc := 72) (v := (0 : Int32)) K (by decide) dX9_cause_72 ?_
  exact Vw.loc rfl (s_X9_cause_73 K E  h)
def f_X9_cause (A : Hp) (x0 : Nat) (x1 : Int32) : Option (Int32) := if (hsh A x0).1 = 8 then (if (hgI A 481 x0 0) = (0 : Int32) then some (11 : Int32) else (if (hgI A 483 x0 0) = (0 : Int32) then some (12 : Int32) else (if (16 : Int32) < (hgI A 483 x0 0) then some (13 : Int32) else (if (hgI A 485 x0 0) ≤ (32 : Int32) then (if (hgI A 476 x0 0) = (0 : Int32) then k_X9_cause_72 A x0 x1 else ((f_X9_hostLong A x0).bind fun v75 => ((f_X9_areLike A x0 (8800 : Int32) (hgI A 477 x0 0) (104 : Int32) v75).bind fun v77 => (if v77 = (0 : Int32) then k_X9_cause_72 A x0 x1 else k_X9_cause_73 A x0 x1 (1 : Int32))))) else some (13 : Int32))))) else none
set_option maxRecDepth 100000 in
theorem s_X9_cause {l : Launch} {g : GT} (hl : l.stackTraces = false) {A : Hp} {x0 : Nat} {x1 : Int32} {r : Int32} (h : f_X9_cause A x0 x1 = some r) : MetV l g yX9_cause (.code yX9_cause cX9_cause 7 (some .int)) [.inr (.inr x0), .inl x1] A (.inl (some (.inl r))) A 4 98 0 0 := by
  refine MetV.ofV hl (by decide +kernel) (Nat.le_of_ble_eq_true rfl) (fun κ K E => ?_)
  have K : Cx κ cX9_cause 7 RX9 4 98 0 0 := K
  have E : Ed κ (some .int) "cause" (.inl (some (.inl r))) A 0 0 := E
  unfold f_X9_cause at h
  change Vw κ A 0 0 0 [(0, .inr (.inr x0)), (1, .inl x1)] []
  refine Vw.aload_n (pc := 0) (x := x0) K dX9_cause_0 rfl ?_
  obtain ⟨g68, h⟩ := wgd h
  refine Vw.getI (pc := 1) (k := 33) (f := 481) K cls7 rfl rfl u_6_50 g68 dX9_cause_1 ?_
  refine Vw.if_ne (pc := 4) (tgt := 10) K dX9_cause_4 (by decide) (fun c69 => ?_) (fun c69 => ?_)
  · have h := wneg c69 h
    refine Vw.aload_n (pc := 10) (x := x0) K dX9_cause_10 rfl ?_
    refine Vw.getI (pc := 11) (k := 35) (f := 483) K cls7 rfl rfl u_6_52 g68 dX9_cause_11 ?_
    refine Vw.if_ne (pc := 14) (tgt := 20) K dX9_cause_14 (by decide) (fun c70 => ?_) (fun c70 => ?_)
    · have h := wneg c70 h
      refine Vw.aload_n (pc := 20) (x := x0) K dX9_cause_20 rfl ?_
      refine Vw.getI (pc := 21) (k := 35) (f := 483) K cls7 rfl rfl u_6_52 g68 dX9_cause_21 ?_
      refine Vw.bipush (pc := 24) (v := (16 : Int32)) K (by decide) dX9_cause_24 ?_
      refine Vw.icmp_gt (pc := 26) (tgt := 38) K dX9_cause_26 (by decide) (fun c71 => ?_) (fun c71 => ?_)
      · have h := wpos c71 h
        refine Vw.bipush (pc := 38) (v := (13 : Int32)) K (by decide) dX9_cause_38 ?_
        exact Vw.iretE (pc := 40) K (Option.some.inj h) rfl E (by decide) (by decide) dX9_cause_40
      · have h := wneg c71 h
        refine Vw.aload_n (pc := 29) (x := x0) K dX9_cause_29 rfl ?_
        refine Vw.getI (pc := 30) (k := 37) (f := 485) K cls7 rfl rfl u_6_54 g68 dX9_cause_30 ?_
        refine Vw.bipush (pc := 33) (v := (32 : Int32)) K (by decide) dX9_cause_33 ?_
        refine Vw.icmp_le (pc := 35) (tgt := 41) K dX9_cause_35 (by decide) (fun c72 => ?_) (fun c72 => ?_)
        · have h := wpos c72 h
          refine Vw.aload_n (pc := 41) (x := x0) K dX9_cause_41 rfl ?_
          refine Vw.getI (pc := 42) (k := 28) (f := 476) K cls7 rfl rfl u_6_45 g68 dX9_cause_42 ?_
          refine Vw.if_eq (pc := 45) (tgt := 72) K dX9_cause_45 (by decide) (fun c73 => ?_) (fun c73 => ?_)
          · have h := wpos c73 h
            exact Vw.loc rfl (s_X9_cause_72 K E  h)
          · have h := wneg c73 h
            refine Vw.aload_n (pc := 48) (x := x0) K dX9_cause_48 rfl ?_
            refine Vw.sipush (pc := 49) (v := (8800 : Int32)) K (by decide) dX9_cause_49 ?_
            refine Vw.aload_n (pc := 52) (x := x0) K dX9_cause_52 rfl ?_
            refine Vw.getI (pc := 53) (k := 29) (f := 477) K cls7 rfl rfl u_6_46 g68 dX9_cause_53 ?_
            refine Vw.bipush (pc := 56) (v := (104 : Int32)) K (by decide) dX9_cause_56 ?_
            refine Vw.aload_n (pc := 58) (x := x0) K dX9_cause_58 rfl ?_
            obtain ⟨v75, e74, h⟩ := wbd h
            refine Vw.cV1 (pc := 59) (v := .inl v75) (c' := 0) (n' := 0) K (s_X9_hostLong K.tr e74) cal_X9_hostLong cls7 u_6_218 g68 rfl ⟨by decide, by decide⟩ ⟨by decide, by decide⟩ rfl (Nat.le_of_ble_eq_true rfl) dX9_cause_59 rfl rfl ?_
            obtain ⟨v77, e76, h⟩ := wbd h
            refine Vw.cV1 (pc := 62) (v := .inl v77) (c' := 0) (n' := 0) K (s_X9_areLike K.tr e76) cal_X9_areLike cls7 u_6_202 g68 rfl ⟨by decide, by decide⟩ ⟨by decide, by decide⟩ rfl (Nat.le_of_ble_eq_true rfl) dX9_cause_62 rfl rfl ?_
            refine Vw.if_eq (pc := 65) (tgt := 72) K dX9_cause_65 (by decide) (fun c78 => ?_) (fun c78 => ?_)
            · have h := wpos c78 h
              exact Vw.loc rfl (s_X9_cause_72 K E  h)
            · have h := wneg c78 h
              refine Vw.iconst (pc := 68) (v := (1 : Int32)) K (by decide) dX9_cause_68 ?_
              refine Vw.goto (pc := 69) (tgt := 73) K dX9_cause_69 (by decide) ?_
              exact Vw.loc rfl (s_X9_cause_73 K E  h)
        · have h := wneg c72 h
          refine Vw.bipush (pc := 38) (v := (13 : Int32)) K (by decide) dX9_cause_38 ?_
          exact Vw.iretE (pc := 40) K (Option.some.inj h) rfl E (by decide) (by decide) dX9_cause_40
    · have h := wpos c70 h
      refine Vw.bipush (pc := 17) (v := (12 : Int32)) K (by decide) dX9_cause_17 ?_
      exact Vw.iretE (pc := 19) K (Option.some.inj h) rfl E (by decide) (by decide) dX9_cause_19
  · have h := wpos c69 h
    refine Vw.bipush (pc := 7) (v := (11 : Int32)) K (by decide) dX9_cause_7 ?_
    exact Vw.iretE (pc := 9) K (Option.some.inj h) rfl E (by decide) (by decide) dX9_cause_9
theorem cal_X9_cause : wCalV RX9 yX9_cause (.code yX9_cause cX9_cause 7 (some .int)) 1 := ⟨by decide +kernel, u_7_96, us_5_0, u_1_9, u_7_97⟩
def f_X9_goes (A : Hp) (x0 : Nat) (x1 : Int32) : Option (Hp) := if (hsh A x0).1 = 8 then if (hsh A (hgR A 448 x0 0)).1 = 11 then if wix (5 : Int32) (hsh A (hgR A 448 x0 0)).2 then if (hsh (hsL A 1035 (hgR A 448 x0 0) (5 : Int32).toNatClampNeg ((hgL A 1035 (hgR A 448 x0 0) (5 : Int32).toNatClampNeg) - (1 : Int64))) (hgR (hsL A 1035 (hgR A 448 x0 0) (5 : Int32).toNatClampNeg ((hgL A 1035 (hgR A 448 x0 0) (5 : Int32).toNatClampNeg) - (1 : Int64))) 448 x0 0)).1 = 11 then if wix (5 : Int32) (hsh (hsL A 1035 (hgR A 448 x0 0) (5 : Int32).toNatClampNeg ((hgL A 1035 (hgR A 448 x0 0) (5 : Int32).toNatClampNeg) - (1 : Int64))) (hgR (hsL A 1035 (hgR A 448 x0 0) (5 : Int32).toNatClampNeg ((hgL A 1035 (hgR A 448 x0 0) (5 : Int32).toNatClampNeg) - (1 : Int64))) 448 x0 0)).2 then ((f_X9_cookie (hsL A 1035 (hgR A 448 x0 0) (5 : Int32).toNatClampNeg ((hgL A 1035 (hgR A 448 x0 0) (5 : Int32).toNatClampNeg) - (1 : Int64))) ((hgL (hsL A 1035 (hgR A 448 x0 0) (5 : Int32).toNatClampNeg ((hgL A 1035 (hgR A 448 x0 0) (5 : Int32).toNatClampNeg) - (1 : Int64))) 1035 (hgR (hsL A 1035 (hgR A 448 x0 0) (5 : Int32).toNatClampNeg ((hgL A 1035 (hgR A 448 x0 0) (5 : Int32).toNatClampNeg) - (1 : Int64))) 448 x0 0) (5 : Int32).toNatClampNeg).toInt32)).bind fun v7 => ((f_X9_cookie (hsL A 1035 (hgR A 448 x0 0) (5 : Int32).toNatClampNeg ((hgL A 1035 (hgR A 448 x0 0) (5 : Int32).toNatClampNeg) - (1 : Int64))) x1).bind fun v9 => ((f_X9_copies (hsL A 1035 (hgR A 448 x0 0) (5 : Int32).toNatClampNeg ((hgL A 1035 (hgR A 448 x0 0) (5 : Int32).toNatClampNeg) - (1 : Int64))) x0 v7 (140 : Int32) v9).bind fun A11 => some A11))) else none else none else none else none else none
set_option maxRecDepth 100000 in
theorem s_X9_goes {l : Launch} {g : GT} (hl : l.stackTraces = false) {A : Hp} {x0 : Nat} {x1 : Int32} {B : Hp} (h : f_X9_goes A x0 x1 = some B) : MetV l g yX9_goes (.code yX9_goes cX9_goes 2 none) [.inr (.inr x0), .inl x1] A (.inl none) B 1 24 0 0 := by
  refine MetV.ofV hl (by decide +kernel) (Nat.le_of_ble_eq_true rfl) (fun κ K E => ?_)
  have K : Cx κ cX9_goes 2 RX9 1 24 0 0 := K
  have E : Ed κ none "goes" (.inl none) B 0 0 := E
  unfold f_X9_goes at h
  change Vw κ A 0 0 0 [(0, .inr (.inr x0)), (1, .inl x1)] []
  refine Vw.aload_n (pc := 0) (x := x0) K dX9_goes_0 rfl ?_
  obtain ⟨g1, h⟩ := wgd h
  refine Vw.getR (pc := 1) (k := 0) (f := 448) K cls7 rfl rfl u_6_17 g1 dX9_goes_1 ?_
  refine Vw.iconst (pc := 4) (v := (5 : Int32)) K (by decide) dX9_goes_4 ?_
  refine Vw.dup2 (pc := 5) K rfl rfl dX9_goes_5 ?_
  obtain ⟨g2, h⟩ := wgd h
  obtain ⟨g3, h⟩ := wgd h
  refine Vw.laload (pc := 6) K g2 g3 dX9_goes_6 ?_
  refine Vw.lconst (pc := 7) (v := (1 : Int64)) K (by decide) dX9_goes_7 ?_
  refine Vw.lsub (pc := 8) K dX9_goes_8 ?_
  refine Vw.lastore (pc := 9) K g2 g3 dX9_goes_9 ?_
  refine Vw.aload_n (pc := 10) (x := x0) K dX9_goes_10 rfl ?_
  refine Vw.aload_n (pc := 11) (x := x0) K dX9_goes_11 rfl ?_
  refine Vw.getR (pc := 12) (k := 0) (f := 448) K cls7 rfl rfl u_6_17 g1 dX9_goes_12 ?_
  refine Vw.iconst (pc := 15) (v := (5 : Int32)) K (by decide) dX9_goes_15 ?_
  obtain ⟨g4, h⟩ := wgd h
  obtain ⟨g5, h⟩ := wgd h
  refine Vw.laload (pc := 16) K g4 g5 dX9_goes_16 ?_
  refine Vw.l2i (pc := 17) K dX9_goes_17 ?_
  obtain ⟨v7, e6, h⟩ := wbd h
  refine Vw.cS1 (pc := 18) (v := .inl v7) (c' := 0) (n' := 0) K (s_X9_cookie K.tr e6) cal_X9_cookie u_7_102 rfl ⟨by decide, by decide⟩ ⟨by decide, by decide⟩ rfl (Nat.le_of_ble_eq_true rfl) dX9_goes_18 rfl rfl ?_
  refine Vw.sipush (pc := 21) (v := (140 : Int32)) K (by decide) dX9_goes_21 ?_
  refine Vw.iload_n (pc := 24) (x := x1) K dX9_goes_24 rfl ?_
  obtain ⟨v9, e8, h⟩ := wbd h
  refine Vw.cS1 (pc := 25) (v := .inl v9) (c' := 0) (n' := 0) K (s_X9_cookie K.tr e8) cal_X9_cookie u_7_102 rfl ⟨by decide, by decide⟩ ⟨by decide, by decide⟩ rfl (Nat.le_of_ble_eq_true rfl) dX9_goes_25 rfl rfl ?_
  obtain ⟨A11, e10, h⟩ := wbd h
  refine Vw.cV0 (pc := 28) (c' := 0) (n' := 0) K (s_X9_copies K.tr e10) cal_X9_copies cls7 u_6_170 g1 rfl ⟨by decide, by decide⟩ ⟨by decide, by decide⟩ rfl (Nat.le_of_ble_eq_true rfl) dX9_goes_28 rfl rfl ?_
  exact Vw.vretE (pc := 31) K (Option.some.inj h) E (by decide) (by decide) dX9_goes_31
theorem cal_X9_goes : wCalV RX9 yX9_goes (.code yX9_goes cX9_goes 2 none) 1 := ⟨by decide +kernel, u_7_136, us_5_9, u_1_9, u_7_137⟩
def f_X9_happens (A : Hp) (x0 : Nat) (x1 : Int32) (x2 : Int32) : Option (Int32 × Hp) := if (hsh A x0).1 = 8 then if (hsh A (hgR A 448 x0 0)).1 = 11 then if wix ((10 : Int32) + x1) (hsh A (hgR A 448 x0 0)).2 then some (x2, (hsL A 1035 (hgR A 448 x0 0) ((10 : Int32) + x1).toNatClampNeg ((hgL A 1035 (hgR A 448 x0 0) ((10 : Int32) + x1).toNatClampNeg) + (1 : Int64)))) else none else none else none
set_option maxRecDepth 100000 in
theorem s_X9_happens {l : Launch} {g : GT} (hl : l.stackTraces = false) {A : Hp} {x0 : Nat} {x1 : Int32} {x2 : Int32} {r : Int32} {B : Hp} (h : f_X9_happens A x0 x1 x2 = some (r, B)) : MetV l g yX9_happens (.code yX9_happens cX9_happens 3 (some .int)) [.inr (.inr x0), .inl x1, .inl x2] A (.inl (some (.inl r))) B 0 0 0 0 := by
  refine MetV.ofV hl (by decide +kernel) (Nat.le_of_ble_eq_true rfl) (fun κ K E => ?_)
  have K : Cx κ cX9_happens 3 RX9 0 0 0 0 := K
  have E : Ed κ (some .int) "happens" (.inl (some (.inl r))) B 0 0 := E
  unfold f_X9_happens at h
  change Vw κ A 0 0 0 [(0, .inr (.inr x0)), (1, .inl x1), (2, .inl x2)] []
  refine Vw.aload_n (pc := 0) (x := x0) K dX9_happens_0 rfl ?_
  obtain ⟨g1, h⟩ := wgd h
  refine Vw.getR (pc := 1) (k := 0) (f := 448) K cls7 rfl rfl u_6_17 g1 dX9_happens_1 ?_
  refine Vw.bipush (pc := 4) (v := (10 : Int32)) K (by decide) dX9_happens_4 ?_
  refine Vw.iload_n (pc := 6) (x := x1) K dX9_happens_6 rfl ?_
  refine Vw.iadd (pc := 7) K dX9_happens_7 ?_
  refine Vw.dup2 (pc := 8) K rfl rfl dX9_happens_8 ?_
  obtain ⟨g2, h⟩ := wgd h
  obtain ⟨g3, h⟩ := wgd h
  refine Vw.laload (pc := 9) K g2 g3 dX9_happens_9 ?_
  refine Vw.lconst (pc := 10) (v := (1 : Int64)) K (by decide) dX9_happens_10 ?_
  refine Vw.ladd (pc := 11) K dX9_happens_11 ?_
  refine Vw.lastore (pc := 12) K g2 g3 dX9_happens_12 ?_
  refine Vw.iload_n (pc := 13) (x := x2) K dX9_happens_13 rfl ?_
  exact Vw.iretH (pc := 14) K h E (by decide) (by decide) dX9_happens_14
theorem cal_X9_happens : wCalV RX9 yX9_happens (.code yX9_happens cX9_happens 3 (some .int)) 2 := ⟨by decide +kernel, u_7_127, us_5_7, u_1_9, u_7_128⟩
def f_X9_isOfNew (A : Hp) (x0 : Nat) (x1 : Int32) : Option (Int32) := ((f_X9_cookie A x1).bind fun v2 => if (hsh A x0).1 = 8 then if (hsh A (hgR A 448 x0 0)).1 = 11 then if wix (v2 + (2 : Int32)) (hsh A (hgR A 448 x0 0)).2 then if wix (8602 : Int32) (hsh A (hgR A 448 x0 0)).2 then ((f_X9_areOneSite A x0 (v2 + (62 : Int32)) ((hgL A 1035 (hgR A 448 x0 0) (v2 + (2 : Int32)).toNatClampNeg).toInt32) (8662 : Int32) ((hgL A 1035 (hgR A 448 x0 0) (8602 : Int32).toNatClampNeg).toInt32)).bind fun v8 => if wZ v8 then some v8 else none) else none else none else none else none)
set_option maxRecDepth 100000 in
theorem s_X9_isOfNew {l : Launch} {g : GT} (hl : l.stackTraces = false) {A : Hp} {x0 : Nat} {x1 : Int32} {r : Int32} (h : f_X9_isOfNew A x0 x1 = some r) : MetV l g yX9_isOfNew (.code yX9_isOfNew cX9_isOfNew 3 (some .boolean)) [.inr (.inr x0), .inl x1] A (.inl (some (.inl r))) A 5 125 0 0 := by
  refine MetV.ofV hl (by decide +kernel) (Nat.le_of_ble_eq_true rfl) (fun κ K E => ?_)
  have K : Cx κ cX9_isOfNew 3 RX9 5 125 0 0 := K
  have E : Ed κ (some .boolean) "isOfNew" (.inl (some (.inl r))) A 0 0 := E
  unfold f_X9_isOfNew at h
  change Vw κ A 0 0 0 [(0, .inr (.inr x0)), (1, .inl x1)] []
  refine Vw.iload_n (pc := 0) (x := x1) K dX9_isOfNew_0 rfl ?_
  obtain ⟨v2, e1, h⟩ := wbd h
  refine Vw.cS1 (pc := 1) (v := .inl v2) (c' := 0) (n' := 0) K (s_X9_cookie K.tr e1) cal_X9_cookie u_7_102 rfl ⟨by decide, by decide⟩ ⟨by decide, by decide⟩ rfl (Nat.le_of_ble_eq_true rfl) dX9_isOfNew_1 rfl rfl ?_
  refine Vw.istore_n (pc := 4) K dX9_isOfNew_4 (by decide) ?_
  refine Vw.aload_n (pc := 5) (x := x0) K dX9_isOfNew_5 rfl ?_
  refine Vw.iload_n (pc := 6) (x := v2) K dX9_isOfNew_6 rfl ?_
  refine Vw.bipush (pc := 7) (v := (62 : Int32)) K (by decide) dX9_isOfNew_7 ?_
  refine Vw.iadd (pc := 9) K dX9_isOfNew_9 ?_
  refine Vw.aload_n (pc := 10) (x := x0) K dX9_isOfNew_10 rfl ?_
  obtain ⟨g3, h⟩ := wgd h
  refine Vw.getR (pc := 11) (k := 0) (f := 448) K cls7 rfl rfl u_6_17 g3 dX9_isOfNew_11 ?_
  refine Vw.iload_n (pc := 14) (x := v2) K dX9_isOfNew_14 rfl ?_
  refine Vw.iconst (pc := 15) (v := (2 : Int32)) K (by decide) dX9_isOfNew_15 ?_
  refine Vw.iadd (pc := 16) K dX9_isOfNew_16 ?_
  obtain ⟨g4, h⟩ := wgd h
  obtain ⟨g5, h⟩ := wgd h
  refine Vw.laload (pc := 17) K g4 g5 dX9_isOfNew_17 ?_
  refine Vw.l2i (pc := 18) K dX9_isOfNew_18 ?_
  refine Vw.sipush (pc := 19) (v := (8662 : Int32)) K (by decide) dX9_isOfNew_19 ?_
  refine Vw.aload_n (pc := 22) (x := x0) K dX9_isOfNew_22 rfl ?_
  refine Vw.getR (pc := 23) (k := 0) (f := 448) K cls7 rfl rfl u_6_17 g3 dX9_isOfNew_23 ?_
  refine Vw.sipush (pc := 26) (v := (8602 : Int32)) K (by decide) dX9_isOfNew_26 ?_
  obtain ⟨g6, h⟩ := wgd h
  refine Vw.laload (pc := 29) K g4 g6 dX9_isOfNew_29 ?_
  refine Vw.l2i (pc := 30) K dX9_isOfNew_30 ?_
  obtain ⟨v8, e7, h⟩ := wbd h
  refine Vw.cV1 (pc := 31) (v := .inl v8) (c' := 0) (n' := 0) K (s_X9_areOneSite K.tr e7) cal_X9_areOneSite cls7 u_6_186 g3 rfl ⟨by decide, by decide⟩ ⟨by decide, by decide⟩ rfl (Nat.le_of_ble_eq_true rfl) dX9_isOfNew_31 rfl rfl ?_
  obtain ⟨g9, h⟩ := wgd h
  exact Vw.zretE (pc := 34) K g9 (Option.some.inj h) rfl E (by decide) (by decide) dX9_isOfNew_34
theorem cal_X9_isOfNew : wCalV RX9 yX9_isOfNew (.code yX9_isOfNew cX9_isOfNew 3 (some .boolean)) 1 := ⟨by decide +kernel, u_7_148, us_5_12, u_1_9, u_7_149⟩
def k_X9_ofSite_30 (rec4 : Int32 → Int32 → Option (Int32)) (A : Hp) (x0 : Nat) (x2 : Int32) (t0 : Int32) (t1 : Int32) : Option (Int32) := rec4 (t0 + t1) (x2 + (1 : Int32))
set_option maxRecDepth 100000 in
theorem s_X9_ofSite_30 {κ : KT} {r : Int32} {A : Hp} {x0 : Nat} {x2 : Int32} {t0 : Int32} {t1 : Int32} {rec4 : Int32 → Int32 → Option (Int32)} (K : Cx κ cX9_ofSite 3 RX9 6 147 0 0) (E : Ed κ (some .int) "ofSite" (.inl (some (.inl r))) A 0 0) (hr4 : ∀ (x1 : Int32) (x2 : Int32), rec4 x1 x2 = some r → Vw κ A 0 0 4 [(0, .inr (.inr x0)), (1, .inl x1), (2, .inl x2)] []) (h : k_X9_ofSite_30 rec4 A x0 x2 t0 t1 = some r) : Vw κ A 0 0 30 [(0, .inr (.inr x0)), (2, .inl x2)] [.inl t1, .inl t0] := by
  unfold k_X9_ofSite_30 at h
  refine Vw.iadd (pc := 30) K dX9_ofSite_30 ?_
  refine Vw.istore_n (pc := 31) K dX9_ofSite_31 (by decide) ?_
  refine Vw.iinc (pc := 32) (x := x2) (v := (1 : Int32)) K dX9_ofSite_32 rfl (by decide) (by decide) ?_
  refine Vw.goto (pc := 35) (tgt := 4) K dX9_ofSite_35 (by decide) ?_
  exact Vw.loc rfl (hr4 _ _ h)
def k_X9_ofSite_4s (A : Hp) (x0 : Nat)  (rec4 : Int32 → Int32 → Option (Int32))  (x1 : Int32) (x2 : Int32) : Option (Int32) := if (hsh A x0).1 = 8 then if (hsh A (hgR A 448 x0 0)).1 = 11 then if wix (5 : Int32) (hsh A (hgR A 448 x0 0)).2 then (if (hgL A 1035 (hgR A 448 x0 0) (5 : Int32).toNatClampNeg) ≤ x2.toInt64 then some x1 else ((f_X9_isOfNew A x0 x2).bind fun v6 => (if v6 = (0 : Int32) then k_X9_ofSite_30 rec4 A x0 x2 x1 (0 : Int32) else k_X9_ofSite_30 rec4 A x0 x2 x1 (1 : Int32)))) else none else none else none
def k_X9_ofSite_4 (A : Hp) (x0 : Nat)  : Nat → Int32 → Int32 → Option (Int32)
  | 0 => fun _ _ => none
  | fu + 1 => k_X9_ofSite_4s A x0  (k_X9_ofSite_4 A x0  fu)
set_option maxRecDepth 100000 in
theorem s_X9_ofSite_4 {κ : KT} {r : Int32} {A : Hp} {x0 : Nat}  (K : Cx κ cX9_ofSite 3 RX9 6 147 0 0) (E : Ed κ (some .int) "ofSite" (.inl (some (.inl r))) A 0 0)  : ∀ (fu : Nat)  (x1 : Int32) (x2 : Int32),  k_X9_ofSite_4 A x0  fu x1 x2 = some r → Vw κ A 0 0 4 [(0, .inr (.inr x0)), (1, .inl x1), (2, .inl x2)] [] := by
  intro fu
  induction fu with
  | zero => intro x1 x2 h; cases h
  | succ fu hr4 =>
    intro x1 x2 h
    have h : k_X9_ofSite_4s A x0  (k_X9_ofSite_4 A x0  fu) x1 x2 = some r := h
    unfold k_X9_ofSite_4s at h
    refine Vw.iload_n (pc := 4) (x := x2) K dX9_ofSite_4 rfl ?_
    refine Vw.i2l (pc := 5) K dX9_ofSite_5 ?_
    refine Vw.aload_n (pc := 6) (x := x0) K dX9_ofSite_6 rfl ?_
    obtain ⟨g1, h⟩ := wgd h
    refine Vw.getR (pc := 7) (k := 0) (f := 448) K cls7 rfl rfl u_6_17 g1 dX9_ofSite_7 ?_
    refine Vw.iconst (pc := 10) (v := (5 : Int32)) K (by decide) dX9_ofSite_10 ?_
    obtain ⟨g2, h⟩ := wgd h
    obtain ⟨g3, h⟩ := wgd h
    refine Vw.laload (pc := 11) K g2 g3 dX9_ofSite_11 ?_
    refine Vw.lcmp_ge (pc := 12) (tgt := 38) K dX9_ofSite_12 dX9_ofSite_13 (by decide) (fun c4 => ?_) (fun c4 => ?_)
    · have h := wpos c4 h
      refine Vw.iload_n (pc := 38) (x := x1) K dX9_ofSite_38 rfl ?_
      exact Vw.iretE (pc := 39) K (Option.some.inj h) rfl E (by decide) (by decide) dX9_ofSite_39
    · have h := wneg c4 h
      refine Vw.iload_n (pc := 16) (x := x1) K dX9_ofSite_16 rfl ?_
      refine Vw.aload_n (pc := 17) (x := x0) K dX9_ofSite_17 rfl ?_
      refine Vw.iload_n (pc := 18) (x := x2) K dX9_ofSite_18 rfl ?_
      obtain ⟨v6, e5, h⟩ := wbd h
      refine Vw.cV1 (pc := 19) (v := .inl v6) (c' := 0) (n' := 0) K (s_X9_isOfNew K.tr e5) cal_X9_isOfNew cls7 u_7_146 g1 rfl ⟨by decide, by decide⟩ ⟨by decide, by decide⟩ rfl (Nat.le_of_ble_eq_true rfl) dX9_ofSite_19 rfl rfl ?_
      refine Vw.if_eq (pc := 22) (tgt := 29) K dX9_ofSite_22 (by decide) (fun c7 => ?_) (fun c7 => ?_)
      · have h := wpos c7 h
        refine Vw.iconst (pc := 29) (v := (0 : Int32)) K (by decide) dX9_ofSite_29 ?_
        exact Vw.loc rfl (s_X9_ofSite_30 K E hr4 h)
      · have h := wneg c7 h
        refine Vw.iconst (pc := 25) (v := (1 : Int32)) K (by decide) dX9_ofSite_25 ?_
        refine Vw.goto (pc := 26) (tgt := 30) K dX9_ofSite_26 (by decide) ?_
        exact Vw.loc rfl (s_X9_ofSite_30 K E hr4 h)
def f_X9_ofSite (A : Hp) (x0 : Nat) : Option (Int32) := k_X9_ofSite_4 A x0 FU (0 : Int32) (0 : Int32)
set_option maxRecDepth 100000 in
theorem s_X9_ofSite {l : Launch} {g : GT} (hl : l.stackTraces = false) {A : Hp} {x0 : Nat} {r : Int32} (h : f_X9_ofSite A x0 = some r) : MetV l g yX9_ofSite (.code yX9_ofSite cX9_ofSite 3 (some .int)) [.inr (.inr x0)] A (.inl (some (.inl r))) A 6 147 0 0 := by
  refine MetV.ofV hl (by decide +kernel) (Nat.le_of_ble_eq_true rfl) (fun κ K E => ?_)
  have K : Cx κ cX9_ofSite 3 RX9 6 147 0 0 := K
  have E : Ed κ (some .int) "ofSite" (.inl (some (.inl r))) A 0 0 := E
  unfold f_X9_ofSite at h
  change Vw κ A 0 0 0 [(0, .inr (.inr x0))] []
  refine Vw.iconst (pc := 0) (v := (0 : Int32)) K (by decide) dX9_ofSite_0 ?_
  refine Vw.istore_n (pc := 1) K dX9_ofSite_1 (by decide) ?_
  refine Vw.iconst (pc := 2) (v := (0 : Int32)) K (by decide) dX9_ofSite_2 ?_
  refine Vw.istore_n (pc := 3) K dX9_ofSite_3 (by decide) ?_
  exact Vw.loc rfl (s_X9_ofSite_4 K E  _ _ _ h)
theorem cal_X9_ofSite : wCalV RX9 yX9_ofSite (.code yX9_ofSite cX9_ofSite 3 (some .int)) 0 := ⟨by decide +kernel, u_7_144, us_5_11, u_1_9, u_7_145⟩
def f_X9_sizeOf (A : Hp) (x0 : Nat) (x1 : Int32) : Option (Int64) := if (hsh A x0).1 = 8 then if (hsh A (hgR A 448 x0 0)).1 = 11 then if wix x1 (hsh A (hgR A 448 x0 0)).2 then if wix (x1 + (1 : Int32)) (hsh A (hgR A 448 x0 0)).2 then some ((hgL A 1035 (hgR A 448 x0 0) x1.toNatClampNeg) + (hgL A 1035 (hgR A 448 x0 0) (x1 + (1 : Int32)).toNatClampNeg)) else none else none else none else none
set_option maxRecDepth 100000 in
theorem s_X9_sizeOf {l : Launch} {g : GT} (hl : l.stackTraces = false) {A : Hp} {x0 : Nat} {x1 : Int32} {r : Int64} (h : f_X9_sizeOf A x0 x1 = some r) : MetV l g yX9_sizeOf (.code yX9_sizeOf cX9_sizeOf 2 (some .long)) [.inr (.inr x0), .inl x1] A (.inl (some (.inr (.inl r)))) A 0 0 0 0 := by
  refine MetV.ofV hl (by decide +kernel) (Nat.le_of_ble_eq_true rfl) (fun κ K E => ?_)
  have K : Cx κ cX9_sizeOf 2 RX9 0 0 0 0 := K
  have E : Ed κ (some .long) "sizeOf" (.inl (some (.inr (.inl r)))) A 0 0 := E
  unfold f_X9_sizeOf at h
  change Vw κ A 0 0 0 [(0, .inr (.inr x0)), (1, .inl x1)] []
  refine Vw.aload_n (pc := 0) (x := x0) K dX9_sizeOf_0 rfl ?_
  obtain ⟨g1, h⟩ := wgd h
  refine Vw.getR (pc := 1) (k := 0) (f := 448) K cls7 rfl rfl u_6_17 g1 dX9_sizeOf_1 ?_
  refine Vw.iload_n (pc := 4) (x := x1) K dX9_sizeOf_4 rfl ?_
  obtain ⟨g2, h⟩ := wgd h
  obtain ⟨g3, h⟩ := wgd h
  refine Vw.laload (pc := 5) K g2 g3 dX9_sizeOf_5 ?_
  refine Vw.aload_n (pc := 6) (x := x0) K dX9_sizeOf_6 rfl ?_
  refine Vw.getR (pc := 7) (k := 0) (f := 448) K cls7 rfl rfl u_6_17 g1 dX9_sizeOf_7 ?_
  refine Vw.iload_n (pc := 10) (x := x1) K dX9_sizeOf_10 rfl ?_
  refine Vw.iconst (pc := 11) (v := (1 : Int32)) K (by decide) dX9_sizeOf_11 ?_
  refine Vw.iadd (pc := 12) K dX9_sizeOf_12 ?_
  obtain ⟨g4, h⟩ := wgd h
  refine Vw.laload (pc := 13) K g2 g4 dX9_sizeOf_13 ?_
  refine Vw.ladd (pc := 14) K dX9_sizeOf_14 ?_
  exact Vw.lretE (pc := 15) K (Option.some.inj h) rfl E (by decide) (by decide) dX9_sizeOf_15
theorem cal_X9_sizeOf : wCalV RX9 yX9_sizeOf (.code yX9_sizeOf cX9_sizeOf 2 (some .long)) 1 := ⟨by decide +kernel, u_7_165, us_6_0, u_1_9, u_7_166⟩
def f_X9_worth (A : Hp) (x0 : Nat) (x1 : Int32) : Option (Int64) := if (hsh A x0).1 = 8 then if (hsh A (hgR A 448 x0 0)).1 = 11 then if wix (4 : Int32) (hsh A (hgR A 448 x0 0)).2 then (if (hgL A 1035 (hgR A 448 x0 0) (4 : Int32).toNatClampNeg) = (0 : Int64) then if wix (x1 + (6 : Int32)) (hsh A (hgR A 448 x0 0)).2 then some (hgL A 1035 (hgR A 448 x0 0) (x1 + (6 : Int32)).toNatClampNeg) else none else (if (hgL A 1035 (hgR A 448 x0 0) (4 : Int32).toNatClampNeg) = (1 : Int64) then if wix (x1 + (5 : Int32)) (hsh A (hgR A 448 x0 0)).2 then some (hgL A 1035 (hgR A 448 x0 0) (x1 + (5 : Int32)).toNatClampNeg) else none else (if (hgL A 1035 (hgR A 448 x0 0) (4 : Int32).toNatClampNeg) = (2 : Int64) then if wix (x1 + (4 : Int32)) (hsh A (hgR A 448 x0 0)).2 then (if (0 : Int64) ≤ (hgL A 1035 (hgR A 448 x0 0) (x1 + (4 : Int32)).toNatClampNeg) then some (hgL A 1035 (hgR A 448 x0 0) (x1 + (4 : Int32)).toNatClampNeg) else some (9000000000000000000 : Int64)) else none else ((f_X9_sizeOf A x0 x1).bind fun v8 => some ((0 : Int64) - v8))))) else none else none else none
set_option maxRecDepth 100000 in
theorem s_X9_worth {l : Launch} {g : GT} (hl : l.stackTraces = false) {A : Hp} {x0 : Nat} {x1 : Int32} {r : Int64} (h : f_X9_worth A x0 x1 = some r) : MetV l g yX9_worth (.code yX9_worth cX9_worth 2 (some .long)) [.inr (.inr x0), .inl x1] A (.inl (some (.inr (.inl r)))) A 1 21 0 0 := by
  refine MetV.ofV hl (by decide +kernel) (Nat.le_of_ble_eq_true rfl) (fun κ K E => ?_)
  have K : Cx κ cX9_worth 2 RX9 1 21 0 0 := K
  have E : Ed κ (some .long) "worth" (.inl (some (.inr (.inl r)))) A 0 0 := E
  unfold f_X9_worth at h
  change Vw κ A 0 0 0 [(0, .inr (.inr x0)), (1, .inl x1)] []
  refine Vw.aload_n (pc := 0) (x := x0) K dX9_worth_0 rfl ?_
  obtain ⟨g1, h⟩ := wgd h
  refine Vw.getR (pc := 1) (k := 0) (f := 448) K cls7 rfl rfl u_6_17 g1 dX9_worth_1 ?_
  refine Vw.iconst (pc := 4) (v := (4 : Int32)) K (by decide) dX9_worth_4 ?_
  obtain ⟨g2, h⟩ := wgd h
  obtain ⟨g3, h⟩ := wgd h
  refine Vw.laload (pc := 5) K g2 g3 dX9_worth_5 ?_
  refine Vw.lconst (pc := 6) (v := (0 : Int64)) K (by decide) dX9_worth_6 ?_
  refine Vw.lcmp_ne (pc := 7) (tgt := 21) K dX9_worth_7 dX9_worth_8 (by decide) (fun c4 => ?_) (fun c4 => ?_)
  · have h := wneg c4 h
    refine Vw.aload_n (pc := 21) (x := x0) K dX9_worth_21 rfl ?_
    refine Vw.getR (pc := 22) (k := 0) (f := 448) K cls7 rfl rfl u_6_17 g1 dX9_worth_22 ?_
    refine Vw.iconst (pc := 25) (v := (4 : Int32)) K (by decide) dX9_worth_25 ?_
    refine Vw.laload (pc := 26) K g2 g3 dX9_worth_26 ?_
    refine Vw.lconst (pc := 27) (v := (1 : Int64)) K (by decide) dX9_worth_27 ?_
    refine Vw.lcmp_ne (pc := 28) (tgt := 41) K dX9_worth_28 dX9_worth_29 (by decide) (fun c5 => ?_) (fun c5 => ?_)
    · have h := wneg c5 h
      refine Vw.aload_n (pc := 41) (x := x0) K dX9_worth_41 rfl ?_
      refine Vw.getR (pc := 42) (k := 0) (f := 448) K cls7 rfl rfl u_6_17 g1 dX9_worth_42 ?_
      refine Vw.iconst (pc := 45) (v := (4 : Int32)) K (by decide) dX9_worth_45 ?_
      refine Vw.laload (pc := 46) K g2 g3 dX9_worth_46 ?_
      refine Vw.ldc2 (pc := 47) (v := (2 : Int64)) K u_7_54 dX9_worth_47 ?_
      refine Vw.lcmp_ne (pc := 50) (tgt := 82) K dX9_worth_50 dX9_worth_51 (by decide) (fun c6 => ?_) (fun c6 => ?_)
      · have h := wneg c6 h
        refine Vw.lconst (pc := 82) (v := (0 : Int64)) K (by decide) dX9_worth_82 ?_
        refine Vw.aload_n (pc := 83) (x := x0) K dX9_worth_83 rfl ?_
        refine Vw.iload_n (pc := 84) (x := x1) K dX9_worth_84 rfl ?_
        obtain ⟨v8, e7, h⟩ := wbd h
        refine Vw.cV1 (pc := 85) (v := .inr (.inl v8)) (c' := 0) (n' := 0) K (s_X9_sizeOf K.tr e7) cal_X9_sizeOf cls7 u_7_163 g1 rfl ⟨by decide, by decide⟩ ⟨by decide, by decide⟩ rfl (Nat.le_of_ble_eq_true rfl) dX9_worth_85 rfl rfl ?_
        refine Vw.lsub (pc := 88) K dX9_worth_88 ?_
        exact Vw.lretE (pc := 89) K (Option.some.inj h) rfl E (by decide) (by decide) dX9_worth_89
      · have h := wpos c6 h
        refine Vw.aload_n (pc := 54) (x := x0) K dX9_worth_54 rfl ?_
        refine Vw.getR (pc := 55) (k := 0) (f := 448) K cls7 rfl rfl u_6_17 g1 dX9_worth_55 ?_
        refine Vw.iload_n (pc := 58) (x := x1) K dX9_worth_58 rfl ?_
        refine Vw.iconst (pc := 59) (v := (4 : Int32)) K (by decide) dX9_worth_59 ?_
        refine Vw.iadd (pc := 60) K dX9_worth_60 ?_
        obtain ⟨g9, h⟩ := wgd h
        refine Vw.laload (pc := 61) K g2 g9 dX9_worth_61 ?_
        refine Vw.lconst (pc := 62) (v := (0 : Int64)) K (by decide) dX9_worth_62 ?_
        refine Vw.lcmp_ge (pc := 63) (tgt := 73) K dX9_worth_63 dX9_worth_64 (by decide) (fun c10 => ?_) (fun c10 => ?_)
        · have h := wpos c10 h
          refine Vw.aload_n (pc := 73) (x := x0) K dX9_worth_73 rfl ?_
          refine Vw.getR (pc := 74) (k := 0) (f := 448) K cls7 rfl rfl u_6_17 g1 dX9_worth_74 ?_
          refine Vw.iload_n (pc := 77) (x := x1) K dX9_worth_77 rfl ?_
          refine Vw.iconst (pc := 78) (v := (4 : Int32)) K (by decide) dX9_worth_78 ?_
          refine Vw.iadd (pc := 79) K dX9_worth_79 ?_
          refine Vw.laload (pc := 80) K g2 g9 dX9_worth_80 ?_
          exact Vw.lretE (pc := 81) K (Option.some.inj h) rfl E (by decide) (by decide) dX9_worth_81
        · have h := wneg c10 h
          refine Vw.ldc2 (pc := 67) (v := (9000000000000000000 : Int64)) K u_7_162 dX9_worth_67 ?_
          refine Vw.goto (pc := 70) (tgt := 81) K dX9_worth_70 (by decide) ?_
          exact Vw.lretE (pc := 81) K (Option.some.inj h) rfl E (by decide) (by decide) dX9_worth_81
    · have h := wpos c5 h
      refine Vw.aload_n (pc := 32) (x := x0) K dX9_worth_32 rfl ?_
      refine Vw.getR (pc := 33) (k := 0) (f := 448) K cls7 rfl rfl u_6_17 g1 dX9_worth_33 ?_
      refine Vw.iload_n (pc := 36) (x := x1) K dX9_worth_36 rfl ?_
      refine Vw.iconst (pc := 37) (v := (5 : Int32)) K (by decide) dX9_worth_37 ?_
      refine Vw.iadd (pc := 38) K dX9_worth_38 ?_
      obtain ⟨g11, h⟩ := wgd h
      refine Vw.laload (pc := 39) K g2 g11 dX9_worth_39 ?_
      exact Vw.lretE (pc := 40) K (Option.some.inj h) rfl E (by decide) (by decide) dX9_worth_40
  · have h := wpos c4 h
    refine Vw.aload_n (pc := 11) (x := x0) K dX9_worth_11 rfl ?_
    refine Vw.getR (pc := 12) (k := 0) (f := 448) K cls7 rfl rfl u_6_17 g1 dX9_worth_12 ?_
    refine Vw.iload_n (pc := 15) (x := x1) K dX9_worth_15 rfl ?_
    refine Vw.bipush (pc := 16) (v := (6 : Int32)) K (by decide) dX9_worth_16 ?_
    refine Vw.iadd (pc := 18) K dX9_worth_18 ?_
    obtain ⟨g12, h⟩ := wgd h
    refine Vw.laload (pc := 19) K g2 g12 dX9_worth_19 ?_
    exact Vw.lretE (pc := 20) K (Option.some.inj h) rfl E (by decide) (by decide) dX9_worth_20
theorem cal_X9_worth : wCalV RX9 yX9_worth (.code yX9_worth cX9_worth 2 (some .long)) 1 := ⟨by decide +kernel, u_7_160, us_5_15, u_1_9, u_7_161⟩
def k_X9_goesAhead_142  (A : Hp)   : Option (Int32) := some (1 : Int32)
set_option maxRecDepth 100000 in
theorem s_X9_goesAhead_142 {κ : KT} {r : Int32} {A : Hp}    (K : Cx κ cX9_goesAhead 3 RX9 2 42 0 0) (E : Ed κ (some .boolean) "goesAhead" (.inl (some (.inl r))) A 0 0)  (h : k_X9_goesAhead_142  A   = some r) : Vw κ A 0 0 142 [] [] := by
  unfold k_X9_goesAhead_142 at h
  refine Vw.iconst (pc := 142) (v := (1 : Int32)) K (by decide) dX9_goesAhead_142 ?_
  refine Vw.goto (pc := 143) (tgt := 147) K dX9_goesAhead_143 (by decide) ?_
  exact Vw.zretE (pc := 147) K (Or.inr rfl) (Option.some.inj h) rfl E (by decide) (by decide) dX9_goesAhead_147
def f_X9_goesAhead (A : Hp) (x0 : Nat) (x1 : Int32) (x2 : Int32) : Option (Int32) := if (hsh A x0).1 = 8 then if (hsh A (hgR A 448 x0 0)).1 = 11 then if wix (x1 + (12 : Int32)) (hsh A (hgR A 448 x0 0)).2 then if wix (x2 + (12 : Int32)) (hsh A (hgR A 448 x0 0)).2 then (if (hgL A 1035 (hgR A 448 x0 0) (x1 + (12 : Int32)).toNatClampNeg) = (hgL A 1035 (hgR A 448 x0 0) (x2 + (12 : Int32)).toNatClampNeg) then if wix (x1 + (9 : Int32)) (hsh A (hgR A 448 x0 0)).2 then if wix (x2 + (9 : Int32)) (hsh A (hgR A 448 x0 0)).2 then (if (hgL A 1035 (hgR A 448 x0 0) (x1 + (9 : Int32)).toNatClampNeg) = (hgL A 1035 (hgR A 448 x0 0) (x2 + (9 : Int32)).toNatClampNeg) then ((f_X9_worth A x0 x1).bind fun v10 => ((f_X9_worth A x0 x2).bind fun v12 => (if v10 < v12 then k_X9_goesAhead_142 A else ((f_X9_worth A x0 x1).bind fun v15 => ((f_X9_worth A x0 x2).bind fun v17 => (if v15 = v17 then if wix (x1 + (7 : Int32)) (hsh A (hgR A 448 x0 0)).2 then if wix (x2 + (7 : Int32)) (hsh A (hgR A 448 x0 0)).2 then (if (hgL A 1035 (hgR A 448 x0 0) (x2 + (7 : Int32)).toNatClampNeg) ≤ (hgL A 1035 (hgR A 448 x0 0) (x1 + (7 : Int32)).toNatClampNeg) then some (0 : Int32) else k_X9_goesAhead_142 A) else none else none else some (0 : Int32))))))) else (if (hgL A 1035 (hgR A 448 x0 0) (x1 + (9 : Int32)).toNatClampNeg) = (0 : Int64) then some (1 : Int32) else some (0 : Int32))) else none else none else (if (hgL A 1035 (hgR A 448 x0 0) (x2 + (12 : Int32)).toNatClampNeg) ≤ (hgL A 1035 (hgR A 448 x0 0) (x1 + (12 : Int32)).toNatClampNeg) then some (0 : Int32) else some (1 : Int32))) else none else none else none else none
set_option maxRecDepth 100000 in
theorem s_X9_goesAhead {l : Launch} {g : GT} (hl : l.stackTraces = false) {A : Hp} {x0 : Nat} {x1 : Int32} {x2 : Int32} {r : Int32} (h : f_X9_goesAhead A x0 x1 x2 = some r) : MetV l g yX9_goesAhead (.code yX9_goesAhead cX9_goesAhead 3 (some .boolean)) [.inr (.inr x0), .inl x1, .inl x2] A (.inl (some (.inl r))) A 2 42 0 0 := by
  refine MetV.ofV hl (by decide +kernel) (Nat.le_of_ble_eq_true rfl) (fun κ K E => ?_)
  have K : Cx κ cX9_goesAhead 3 RX9 2 42 0 0 := K
  have E : Ed κ (some .boolean) "goesAhead" (.inl (some (.inl r))) A 0 0 := E
  unfold f_X9_goesAhead at h
  change Vw κ A 0 0 0 [(0, .inr (.inr x0)), (1, .inl x1), (2, .inl x2)] []
  refine Vw.aload_n (pc := 0) (x := x0) K dX9_goesAhead_0 rfl ?_
  obtain ⟨g1, h⟩ := wgd h
  refine Vw.getR (pc := 1) (k := 0) (f := 448) K cls7 rfl rfl u_6_17 g1 dX9_goesAhead_1 ?_
  refine Vw.iload_n (pc := 4) (x := x1) K dX9_goesAhead_4 rfl ?_
  refine Vw.bipush (pc := 5) (v := (12 : Int32)) K (by decide) dX9_goesAhead_5 ?_
  refine Vw.iadd (pc := 7) K dX9_goesAhead_7 ?_
  obtain ⟨g2, h⟩ := wgd h
  obtain ⟨g3, h⟩ := wgd h
  refine Vw.laload (pc := 8) K g2 g3 dX9_goesAhead_8 ?_
  refine Vw.aload_n (pc := 9) (x := x0) K dX9_goesAhead_9 rfl ?_
  refine Vw.getR (pc := 10) (k := 0) (f := 448) K cls7 rfl rfl u_6_17 g1 dX9_goesAhead_10 ?_
  refine Vw.iload_n (pc := 13) (x := x2) K dX9_goesAhead_13 rfl ?_
  refine Vw.bipush (pc := 14) (v := (12 : Int32)) K (by decide) dX9_goesAhead_14 ?_
  refine Vw.iadd (pc := 16) K dX9_goesAhead_16 ?_
  obtain ⟨g4, h⟩ := wgd h
  refine Vw.laload (pc := 17) K g2 g4 dX9_goesAhead_17 ?_
  refine Vw.lcmp_eq (pc := 18) (tgt := 50) K dX9_goesAhead_18 dX9_goesAhead_19 (by decide) (fun c5 => ?_) (fun c5 => ?_)
  · have h := wpos c5 h
    refine Vw.aload_n (pc := 50) (x := x0) K dX9_goesAhead_50 rfl ?_
    refine Vw.getR (pc := 51) (k := 0) (f := 448) K cls7 rfl rfl u_6_17 g1 dX9_goesAhead_51 ?_
    refine Vw.iload_n (pc := 54) (x := x1) K dX9_goesAhead_54 rfl ?_
    refine Vw.bipush (pc := 55) (v := (9 : Int32)) K (by decide) dX9_goesAhead_55 ?_
    refine Vw.iadd (pc := 57) K dX9_goesAhead_57 ?_
    obtain ⟨g6, h⟩ := wgd h
    refine Vw.laload (pc := 58) K g2 g6 dX9_goesAhead_58 ?_
    refine Vw.aload_n (pc := 59) (x := x0) K dX9_goesAhead_59 rfl ?_
    refine Vw.getR (pc := 60) (k := 0) (f := 448) K cls7 rfl rfl u_6_17 g1 dX9_goesAhead_60 ?_
    refine Vw.iload_n (pc := 63) (x := x2) K dX9_goesAhead_63 rfl ?_
    refine Vw.bipush (pc := 64) (v := (9 : Int32)) K (by decide) dX9_goesAhead_64 ?_
    refine Vw.iadd (pc := 66) K dX9_goesAhead_66 ?_
    obtain ⟨g7, h⟩ := wgd h
    refine Vw.laload (pc := 67) K g2 g7 dX9_goesAhead_67 ?_
    refine Vw.lcmp_eq (pc := 68) (tgt := 92) K dX9_goesAhead_68 dX9_goesAhead_69 (by decide) (fun c8 => ?_) (fun c8 => ?_)
    · have h := wpos c8 h
      refine Vw.aload_n (pc := 92) (x := x0) K dX9_goesAhead_92 rfl ?_
      refine Vw.iload_n (pc := 93) (x := x1) K dX9_goesAhead_93 rfl ?_
      obtain ⟨v10, e9, h⟩ := wbd h
      refine Vw.cV1 (pc := 94) (v := .inr (.inl v10)) (c' := 0) (n' := 0) K (s_X9_worth K.tr e9) cal_X9_worth cls7 u_7_158 g1 rfl ⟨by decide, by decide⟩ ⟨by decide, by decide⟩ rfl (Nat.le_of_ble_eq_true rfl) dX9_goesAhead_94 rfl rfl ?_
      refine Vw.aload_n (pc := 97) (x := x0) K dX9_goesAhead_97 rfl ?_
      refine Vw.iload_n (pc := 98) (x := x2) K dX9_goesAhead_98 rfl ?_
      obtain ⟨v12, e11, h⟩ := wbd h
      refine Vw.cV1 (pc := 99) (v := .inr (.inl v12)) (c' := 0) (n' := 0) K (s_X9_worth K.tr e11) cal_X9_worth cls7 u_7_158 g1 rfl ⟨by decide, by decide⟩ ⟨by decide, by decide⟩ rfl (Nat.le_of_ble_eq_true rfl) dX9_goesAhead_99 rfl rfl ?_
      refine Vw.lcmp_lt (pc := 102) (tgt := 142) K dX9_goesAhead_102 dX9_goesAhead_103 (by decide) (fun c13 => ?_) (fun c13 => ?_)
      · have h := wpos c13 h
        exact Vw.loc rfl (s_X9_goesAhead_142 K E  h)
      · have h := wneg c13 h
        refine Vw.aload_n (pc := 106) (x := x0) K dX9_goesAhead_106 rfl ?_
        refine Vw.iload_n (pc := 107) (x := x1) K dX9_goesAhead_107 rfl ?_
        obtain ⟨v15, e14, h⟩ := wbd h
        refine Vw.cV1 (pc := 108) (v := .inr (.inl v15)) (c' := 0) (n' := 0) K (s_X9_worth K.tr e14) cal_X9_worth cls7 u_7_158 g1 rfl ⟨by decide, by decide⟩ ⟨by decide, by decide⟩ rfl (Nat.le_of_ble_eq_true rfl) dX9_goesAhead_108 rfl rfl ?_
        refine Vw.aload_n (pc := 111) (x := x0) K dX9_goesAhead_111 rfl ?_
        refine Vw.iload_n (pc := 112) (x := x2) K dX9_goesAhead_112 rfl ?_
        obtain ⟨v17, e16, h⟩ := wbd h
        refine Vw.cV1 (pc := 113) (v := .inr (.inl v17)) (c' := 0) (n' := 0) K (s_X9_worth K.tr e16) cal_X9_worth cls7 u_7_158 g1 rfl ⟨by decide, by decide⟩ ⟨by decide, by decide⟩ rfl (Nat.le_of_ble_eq_true rfl) dX9_goesAhead_113 rfl rfl ?_
        refine Vw.lcmp_ne (pc := 116) (tgt := 146) K dX9_goesAhead_116 dX9_goesAhead_117 (by decide) (fun c18 => ?_) (fun c18 => ?_)
        · have h := wneg c18 h
          refine Vw.iconst (pc := 146) (v := (0 : Int32)) K (by decide) dX9_goesAhead_146 ?_
          exact Vw.zretE (pc := 147) K (Or.inl rfl) (Option.some.inj h) rfl E (by decide) (by decide) dX9_goesAhead_147
        · have h := wpos c18 h
          refine Vw.aload_n (pc := 120) (x := x0) K dX9_goesAhead_120 rfl ?_
          refine Vw.getR (pc := 121) (k := 0) (f := 448) K cls7 rfl rfl u_6_17 g1 dX9_goesAhead_121 ?_
          refine Vw.iload_n (pc := 124) (x := x1) K dX9_goesAhead_124 rfl ?_
          refine Vw.bipush (pc := 125) (v := (7 : Int32)) K (by decide) dX9_goesAhead_125 ?_
          refine Vw.iadd (pc := 127) K dX9_goesAhead_127 ?_
          obtain ⟨g19, h⟩ := wgd h
          refine Vw.laload (pc := 128) K g2 g19 dX9_goesAhead_128 ?_
          refine Vw.aload_n (pc := 129) (x := x0) K dX9_goesAhead_129 rfl ?_
          refine Vw.getR (pc := 130) (k := 0) (f := 448) K cls7 rfl rfl u_6_17 g1 dX9_goesAhead_130 ?_
          refine Vw.iload_n (pc := 133) (x := x2) K dX9_goesAhead_133 rfl ?_
          refine Vw.bipush (pc := 134) (v := (7 : Int32)) K (by decide) dX9_goesAhead_134 ?_
          refine Vw.iadd (pc := 136) K dX9_goesAhead_136 ?_
          obtain ⟨g20, h⟩ := wgd h
          refine Vw.laload (pc := 137) K g2 g20 dX9_goesAhead_137 ?_
          refine Vw.lcmp_ge (pc := 138) (tgt := 146) K dX9_goesAhead_138 dX9_goesAhead_139 (by decide) (fun c21 => ?_) (fun c21 => ?_)
          · have h := wpos c21 h
            refine Vw.iconst (pc := 146) (v := (0 : Int32)) K (by decide) dX9_goesAhead_146 ?_
            exact Vw.zretE (pc := 147) K (Or.inl rfl) (Option.some.inj h) rfl E (by decide) (by decide) dX9_goesAhead_147
          · have h := wneg c21 h
            exact Vw.loc rfl (s_X9_goesAhead_142 K E  h)
    · have h := wneg c8 h
      refine Vw.aload_n (pc := 72) (x := x0) K dX9_goesAhead_72 rfl ?_
      refine Vw.getR (pc := 73) (k := 0) (f := 448) K cls7 rfl rfl u_6_17 g1 dX9_goesAhead_73 ?_
      refine Vw.iload_n (pc := 76) (x := x1) K dX9_goesAhead_76 rfl ?_
      refine Vw.bipush (pc := 77) (v := (9 : Int32)) K (by decide) dX9_goesAhead_77 ?_
      refine Vw.iadd (pc := 79) K dX9_goesAhead_79 ?_
      refine Vw.laload (pc := 80) K g2 g6 dX9_goesAhead_80 ?_
      refine Vw.lconst (pc := 81) (v := (0 : Int64)) K (by decide) dX9_goesAhead_81 ?_
      refine Vw.lcmp_ne (pc := 82) (tgt := 90) K dX9_goesAhead_82 dX9_goesAhead_83 (by decide) (fun c22 => ?_) (fun c22 => ?_)
      · have h := wneg c22 h
        refine Vw.iconst (pc := 90) (v := (0 : Int32)) K (by decide) dX9_goesAhead_90 ?_
        exact Vw.zretE (pc := 91) K (Or.inl rfl) (Option.some.inj h) rfl E (by decide) (by decide) dX9_goesAhead_91
      · have h := wpos c22 h
        refine Vw.iconst (pc := 86) (v := (1 : Int32)) K (by decide) dX9_goesAhead_86 ?_
        refine Vw.goto (pc := 87) (tgt := 91) K dX9_goesAhead_87 (by decide) ?_
        exact Vw.zretE (pc := 91) K (Or.inr rfl) (Option.some.inj h) rfl E (by decide) (by decide) dX9_goesAhead_91
  · have h := wneg c5 h
    refine Vw.aload_n (pc := 22) (x := x0) K dX9_goesAhead_22 rfl ?_
    refine Vw.getR (pc := 23) (k := 0) (f := 448) K cls7 rfl rfl u_6_17 g1 dX9_goesAhead_23 ?_
    refine Vw.iload_n (pc := 26) (x := x1) K dX9_goesAhead_26 rfl ?_
    refine Vw.bipush (pc := 27) (v := (12 : Int32)) K (by decide) dX9_goesAhead_27 ?_
    refine Vw.iadd (pc := 29) K dX9_goesAhead_29 ?_
    refine Vw.laload (pc := 30) K g2 g3 dX9_goesAhead_30 ?_
    refine Vw.aload_n (pc := 31) (x := x0) K dX9_goesAhead_31 rfl ?_
    refine Vw.getR (pc := 32) (k := 0) (f := 448) K cls7 rfl rfl u_6_17 g1 dX9_goesAhead_32 ?_
    refine Vw.iload_n (pc := 35) (x := x2) K dX9_goesAhead_35 rfl ?_
    refine Vw.bipush (pc := 36) (v := (12 : Int32)) K (by decide) dX9_goesAhead_36 ?_
    refine Vw.iadd (pc := 38) K dX9_goesAhead_38 ?_
    refine Vw.laload (pc := 39) K g2 g4 dX9_goesAhead_39 ?_
    refine Vw.lcmp_ge (pc := 40) (tgt := 48) K dX9_goesAhead_40 dX9_goesAhead_41 (by decide) (fun c23 => ?_) (fun c23 => ?_)
    · have h := wpos c23 h
      refine Vw.iconst (pc := 48) (v := (0 : Int32)) K (by decide) dX9_goesAhead_48 ?_
      exact Vw.zretE (pc := 49) K (Or.inl rfl) (Option.some.inj h) rfl E (by decide) (by decide) dX9_goesAhead_49
    · have h := wneg c23 h
      refine Vw.iconst (pc := 44) (v := (1 : Int32)) K (by decide) dX9_goesAhead_44 ?_
      refine Vw.goto (pc := 45) (tgt := 49) K dX9_goesAhead_45 (by decide) ?_
      exact Vw.zretE (pc := 49) K (Or.inr rfl) (Option.some.inj h) rfl E (by decide) (by decide) dX9_goesAhead_49
theorem cal_X9_goesAhead : wCalV RX9 yX9_goesAhead (.code yX9_goesAhead cX9_goesAhead 3 (some .boolean)) 2 := ⟨by decide +kernel, u_7_156, us_5_14, u_1_9, u_7_157⟩
def k_X9_victimBut_91 (rec6 : Int32 → Int32 → Option (Int32)) (A : Hp) (x0 : Nat) (x1 : Int64) (x3 : Int32) (x5 : Int32) (t0 : Int32) : Option (Int32) := rec6 t0 (x5 + (1 : Int32))
set_option maxRecDepth 100000 in
theorem s_X9_victimBut_91 {κ : KT} {r : Int32} {A : Hp} {x0 : Nat} {x1 : Int64} {x3 : Int32} {x5 : Int32} {t0 : Int32} {rec6 : Int32 → Int32 → Option (Int32)} (K : Cx κ cX9_victimBut 7 RX9 6 147 0 0) (E : Ed κ (some .int) "victimBut" (.inl (some (.inl r))) A 0 0) (hr6 : ∀ (x4 : Int32) (x5 : Int32), rec6 x4 x5 = some r → Vw κ A 0 0 6 [(0, .inr (.inr x0)), (1, .inr (.inl x1)), (3, .inl x3), (4, .inl x4), (5, .inl x5)] []) (h : k_X9_victimBut_91 rec6 A x0 x1 x3 x5 t0 = some r) : Vw κ A 0 0 91 [(0, .inr (.inr x0)), (1, .inr (.inl x1)), (3, .inl x3), (5, .inl x5)] [.inl t0] := by
  unfold k_X9_victimBut_91 at h
  refine Vw.istore (pc := 91) K dX9_victimBut_91 (by decide) ?_
  refine Vw.iinc (pc := 93) (x := x5) (v := (1 : Int32)) K dX9_victimBut_93 rfl (by decide) (by decide) ?_
  refine Vw.goto (pc := 96) (tgt := 6) K dX9_victimBut_96 (by decide) ?_
  exact Vw.loc rfl (hr6 _ _ h)
def k_X9_victimBut_89 (rec6 : Int32 → Int32 → Option (Int32)) (A : Hp) (x0 : Nat) (x1 : Int64) (x3 : Int32) (x4 : Int32) (x5 : Int32)  : Option (Int32) := k_X9_victimBut_91 rec6 A x0 x1 x3 x5 x4
set_option maxRecDepth 100000 in
theorem s_X9_victimBut_89 {κ : KT} {r : Int32} {A : Hp} {x0 : Nat} {x1 : Int64} {x3 : Int32} {x4 : Int32} {x5 : Int32}  {rec6 : Int32 → Int32 → Option (Int32)} (K : Cx κ cX9_victimBut 7 RX9 6 147 0 0) (E : Ed κ (some .int) "victimBut" (.inl (some (.inl r))) A 0 0) (hr6 : ∀ (x4 : Int32) (x5 : Int32), rec6 x4 x5 = some r → Vw κ A 0 0 6 [(0, .inr (.inr x0)), (1, .inr (.inl x1)), (3, .inl x3), (4, .inl x4), (5, .inl x5)] []) (h : k_X9_victimBut_89 rec6 A x0 x1 x3 x4 x5  = some r) : Vw κ A 0 0 89 [(0, .inr (.inr x0)), (1, .inr (.inl x1)), (3, .inl x3), (4, .inl x4), (5, .inl x5)] [] := by
  unfold k_X9_victimBut_89 at h
  refine Vw.iload (pc := 89) (x := x4) K dX9_victimBut_89 rfl ?_
  exact Vw.loc rfl (s_X9_victimBut_91 K E hr6 h)
def k_X9_victimBut_84 (rec6 : Int32 → Int32 → Option (Int32)) (A : Hp) (x0 : Nat) (x1 : Int64) (x3 : Int32) (x5 : Int32)  : Option (Int32) := k_X9_victimBut_91 rec6 A x0 x1 x3 x5 x5
set_option maxRecDepth 100000 in
theorem s_X9_victimBut_84 {κ : KT} {r : Int32} {A : Hp} {x0 : Nat} {x1 : Int64} {x3 : Int32} {x5 : Int32}  {rec6 : Int32 → Int32 → Option (Int32)} (K : Cx κ cX9_victimBut 7 RX9 6 147 0 0) (E : Ed κ (some .int) "victimBut" (.inl (some (.inl r))) A 0 0) (hr6 : ∀ (x4 : Int32) (x5 : Int32), rec6 x4 x5 = some r → Vw κ A 0 0 6 [(0, .inr (.inr x0)), (1, .inr (.inl x1)), (3, .inl x3), (4, .inl x4), (5, .inl x5)] []) (h : k_X9_victimBut_84 rec6 A x0 x1 x3 x5  = some r) : Vw κ A 0 0 84 [(0, .inr (.inr x0)), (1, .inr (.inl x1)), (3, .inl x3), (5, .inl x5)] [] := by
  unfold k_X9_victimBut_84 at h
  refine Vw.iload (pc := 84) (x := x5) K dX9_victimBut_84 rfl ?_
  refine Vw.goto (pc := 86) (tgt := 91) K dX9_victimBut_86 (by decide) ?_
  exact Vw.loc rfl (s_X9_victimBut_91 K E hr6 h)
def k_X9_victimBut_55 (rec6 : Int32 → Int32 → Option (Int32)) (A : Hp) (x0 : Nat) (x1 : Int64) (x3 : Int32) (x4 : Int32) (x5 : Int32) (t0 : Int32) : Option (Int32) := (if t0 = (0 : Int32) then k_X9_victimBut_89 rec6 A x0 x1 x3 x4 x5 else (if x4 < (0 : Int32) then k_X9_victimBut_84 rec6 A x0 x1 x3 x5 else ((f_X9_cookie A x5).bind fun v4 => ((f_X9_cookie A x4).bind fun v6 => if (hsh A x0).1 = 8 then ((f_X9_goesAhead A x0 v4 v6).bind fun v9 => (if v9 = (0 : Int32) then k_X9_victimBut_89 rec6 A x0 x1 x3 x4 x5 else k_X9_victimBut_84 rec6 A x0 x1 x3 x5)) else none))))
set_option maxRecDepth 100000 in
theorem s_X9_victimBut_55 {κ : KT} {r : Int32} {A : Hp} {x0 : Nat} {x1 : Int64} {x3 : Int32} {x4 : Int32} {x5 : Int32} {t0 : Int32} {rec6 : Int32 → Int32 → Option (Int32)} (K : Cx κ cX9_victimBut 7 RX9 6 147 0 0) (E : Ed κ (some .int) "victimBut" (.inl (some (.inl r))) A 0 0) (hr6 : ∀ (x4 : Int32) (x5 : Int32), rec6 x4 x5 = some r → Vw κ A 0 0 6 [(0, .inr (.inr x0)), (1, .inr (.inl x1)), (3, .inl x3), (4, .inl x4), (5, .inl x5)] []) (h : k_X9_victimBut_55 rec6 A x0 x1 x3 x4 x5 t0 = some r) : Vw κ A 0 0 55 [(0, .inr (.inr x0)), (1, .inr (.inl x1)), (3, .inl x3), (4, .inl x4), (5, .inl x5)] [.inl t0] := by
  unfold k_X9_victimBut_55 at h
  refine Vw.istore (pc := 55) K dX9_victimBut_55 (by decide) ?_
  refine Vw.iload (pc := 57) (x := t0) K dX9_victimBut_57 rfl ?_
  refine Vw.if_eq (pc := 59) (tgt := 89) K dX9_victimBut_59 (by decide) (fun c1 => ?_) (fun c1 => ?_)
  · have h := wpos c1 h
    exact Vw.loc rfl (s_X9_victimBut_89 K E hr6 h)
  · have h := wneg c1 h
    refine Vw.iload (pc := 62) (x := x4) K dX9_victimBut_62 rfl ?_
    refine Vw.if_lt (pc := 64) (tgt := 84) K dX9_victimBut_64 (by decide) (fun c2 => ?_) (fun c2 => ?_)
    · have h := wpos c2 h
      exact Vw.loc rfl (s_X9_victimBut_84 K E hr6 h)
    · have h := wneg c2 h
      refine Vw.aload_n (pc := 67) (x := x0) K dX9_victimBut_67 rfl ?_
      refine Vw.iload (pc := 68) (x := x5) K dX9_victimBut_68 rfl ?_
      obtain ⟨v4, e3, h⟩ := wbd h
      refine Vw.cS1 (pc := 70) (v := .inl v4) (c' := 0) (n' := 0) K (s_X9_cookie K.tr e3) cal_X9_cookie u_7_102 rfl ⟨by decide, by decide⟩ ⟨by decide, by decide⟩ rfl (Nat.le_of_ble_eq_true rfl) dX9_victimBut_70 rfl rfl ?_
      refine Vw.iload (pc := 73) (x := x4) K dX9_victimBut_73 rfl ?_
      obtain ⟨v6, e5, h⟩ := wbd h
      refine Vw.cS1 (pc := 75) (v := .inl v6) (c' := 0) (n' := 0) K (s_X9_cookie K.tr e5) cal_X9_cookie u_7_102 rfl ⟨by decide, by decide⟩ ⟨by decide, by decide⟩ rfl (Nat.le_of_ble_eq_true rfl) dX9_victimBut_75 rfl rfl ?_
      obtain ⟨g7, h⟩ := wgd h
      obtain ⟨v9, e8, h⟩ := wbd h
      refine Vw.cV1 (pc := 78) (v := .inl v9) (c' := 0) (n' := 0) K (s_X9_goesAhead K.tr e8) cal_X9_goesAhead cls7 u_7_154 g7 rfl ⟨by decide, by decide⟩ ⟨by decide, by decide⟩ rfl (Nat.le_of_ble_eq_true rfl) dX9_victimBut_78 rfl rfl ?_
      refine Vw.if_eq (pc := 81) (tgt := 89) K dX9_victimBut_81 (by decide) (fun c10 => ?_) (fun c10 => ?_)
      · have h := wpos c10 h
        exact Vw.loc rfl (s_X9_victimBut_89 K E hr6 h)
      · have h := wneg c10 h
        exact Vw.loc rfl (s_X9_victimBut_84 K E hr6 h)
def k_X9_victimBut_54 (rec6 : Int32 → Int32 → Option (Int32)) (A : Hp) (x0 : Nat) (x1 : Int64) (x3 : Int32) (x4 : Int32) (x5 : Int32)  : Option (Int32) := k_X9_victimBut_55 rec6 A x0 x1 x3 x4 x5 (0 : Int32)
set_option maxRecDepth 100000 in
theorem s_X9_victimBut_54 {κ : KT} {r : Int32} {A : Hp} {x0 : Nat} {x1 : Int64} {x3 : Int32} {x4 : Int32} {x5 : Int32}  {rec6 : Int32 → Int32 → Option (Int32)} (K : Cx κ cX9_victimBut 7 RX9 6 147 0 0) (E : Ed κ (some .int) "victimBut" (.inl (some (.inl r))) A 0 0) (hr6 : ∀ (x4 : Int32) (x5 : Int32), rec6 x4 x5 = some r → Vw κ A 0 0 6 [(0, .inr (.inr x0)), (1, .inr (.inl x1)), (3, .inl x3), (4, .inl x4), (5, .inl x5)] []) (h : k_X9_victimBut_54 rec6 A x0 x1 x3 x4 x5  = some r) : Vw κ A 0 0 54 [(0, .inr (.inr x0)), (1, .inr (.inl x1)), (3, .inl x3), (4, .inl x4), (5, .inl x5)] [] := by
  unfold k_X9_victimBut_54 at h
  refine Vw.iconst (pc := 54) (v := (0 : Int32)) K (by decide) dX9_victimBut_54 ?_
  exact Vw.loc rfl (s_X9_victimBut_55 K E hr6 h)
def k_X9_victimBut_50 (rec6 : Int32 → Int32 → Option (Int32)) (A : Hp) (x0 : Nat) (x1 : Int64) (x3 : Int32) (x4 : Int32) (x5 : Int32)  : Option (Int32) := k_X9_victimBut_55 rec6 A x0 x1 x3 x4 x5 (1 : Int32)
set_option maxRecDepth 100000 in
theorem s_X9_victimBut_50 {κ : KT} {r : Int32} {A : Hp} {x0 : Nat} {x1 : Int64} {x3 : Int32} {x4 : Int32} {x5 : Int32}  {rec6 : Int32 → Int32 → Option (Int32)} (K : Cx κ cX9_victimBut 7 RX9 6 147 0 0) (E : Ed κ (some .int) "victimBut" (.inl (some (.inl r))) A 0 0) (hr6 : ∀ (x4 : Int32) (x5 : Int32), rec6 x4 x5 = some r → Vw κ A 0 0 6 [(0, .inr (.inr x0)), (1, .inr (.inl x1)), (3, .inl x3), (4, .inl x4), (5, .inl x5)] []) (h : k_X9_victimBut_50 rec6 A x0 x1 x3 x4 x5  = some r) : Vw κ A 0 0 50 [(0, .inr (.inr x0)), (1, .inr (.inl x1)), (3, .inl x3), (4, .inl x4), (5, .inl x5)] [] := by
  unfold k_X9_victimBut_50 at h
  refine Vw.iconst (pc := 50) (v := (1 : Int32)) K (by decide) dX9_victimBut_50 ?_
  refine Vw.goto (pc := 51) (tgt := 55) K dX9_victimBut_51 (by decide) ?_
  exact Vw.loc rfl (s_X9_victimBut_55 K E hr6 h)
def k_X9_victimBut_6s (A : Hp) (x0 : Nat) (x1 : Int64) (x3 : Int32)  (rec6 : Int32 → Int32 → Option (Int32))  (x4 : Int32) (x5 : Int32) : Option (Int32) := if (hsh A x0).1 = 8 then if (hsh A (hgR A 448 x0 0)).1 = 11 then if wix (5 : Int32) (hsh A (hgR A 448 x0 0)).2 then (if (hgL A 1035 (hgR A 448 x0 0) (5 : Int32).toNatClampNeg) ≤ x5.toInt64 then some x4 else ((f_X9_cookie A x5).bind fun v16 => if wix (v16 + (7 : Int32)) (hsh A (hgR A 448 x0 0)).2 then (if (hgL A 1035 (hgR A 448 x0 0) (v16 + (7 : Int32)).toNatClampNeg) = x1 then k_X9_victimBut_54 rec6 A x0 x1 x3 x4 x5 else (if x3 = (0 : Int32) then k_X9_victimBut_50 rec6 A x0 x1 x3 x4 x5 else ((f_X9_isOfNew A x0 x5).bind fun v21 => (if v21 = (0 : Int32) then k_X9_victimBut_54 rec6 A x0 x1 x3 x4 x5 else k_X9_victimBut_50 rec6 A x0 x1 x3 x4 x5)))) else none)) else none else none else none
def k_X9_victimBut_6 (A : Hp) (x0 : Nat) (x1 : Int64) (x3 : Int32)  : Nat → Int32 → Int32 → Option (Int32)
  | 0 => fun _ _ => none
  | fu + 1 => k_X9_victimBut_6s A x0 x1 x3  (k_X9_victimBut_6 A x0 x1 x3  fu)
set_option maxRecDepth 100000 in
theorem s_X9_victimBut_6 {κ : KT} {r : Int32} {A : Hp} {x0 : Nat} {x1 : Int64} {x3 : Int32}  (K : Cx κ cX9_victimBut 7 RX9 6 147 0 0) (E : Ed κ (some .int) "victimBut" (.inl (some (.inl r))) A 0 0)  : ∀ (fu : Nat)  (x4 : Int32) (x5 : Int32),  k_X9_victimBut_6 A x0 x1 x3  fu x4 x5 = some r → Vw κ A 0 0 6 [(0, .inr (.inr x0)), (1, .inr (.inl x1)), (3, .inl x3), (4, .inl x4), (5, .inl x5)] [] := by
  intro fu
  induction fu with
  | zero => intro x4 x5 h; cases h
  | succ fu hr6 =>
    intro x4 x5 h
    have h : k_X9_victimBut_6s A x0 x1 x3  (k_X9_victimBut_6 A x0 x1 x3  fu) x4 x5 = some r := h
    unfold k_X9_victimBut_6s at h
    refine Vw.iload (pc := 6) (x := x5) K dX9_victimBut_6 rfl ?_
    refine Vw.i2l (pc := 8) K dX9_victimBut_8 ?_
    refine Vw.aload_n (pc := 9) (x := x0) K dX9_victimBut_9 rfl ?_
    obtain ⟨g11, h⟩ := wgd h
    refine Vw.getR (pc := 10) (k := 0) (f := 448) K cls7 rfl rfl u_6_17 g11 dX9_victimBut_10 ?_
    refine Vw.iconst (pc := 13) (v := (5 : Int32)) K (by decide) dX9_victimBut_13 ?_
    obtain ⟨g12, h⟩ := wgd h
    obtain ⟨g13, h⟩ := wgd h
    refine Vw.laload (pc := 14) K g12 g13 dX9_victimBut_14 ?_
    refine Vw.lcmp_ge (pc := 15) (tgt := 99) K dX9_victimBut_15 dX9_victimBut_16 (by decide) (fun c14 => ?_) (fun c14 => ?_)
    · have h := wpos c14 h
      refine Vw.iload (pc := 99) (x := x4) K dX9_victimBut_99 rfl ?_
      exact Vw.iretE (pc := 101) K (Option.some.inj h) rfl E (by decide) (by decide) dX9_victimBut_101
    · have h := wneg c14 h
      refine Vw.aload_n (pc := 19) (x := x0) K dX9_victimBut_19 rfl ?_
      refine Vw.getR (pc := 20) (k := 0) (f := 448) K cls7 rfl rfl u_6_17 g11 dX9_victimBut_20 ?_
      refine Vw.iload (pc := 23) (x := x5) K dX9_victimBut_23 rfl ?_
      obtain ⟨v16, e15, h⟩ := wbd h
      refine Vw.cS1 (pc := 25) (v := .inl v16) (c' := 0) (n' := 0) K (s_X9_cookie K.tr e15) cal_X9_cookie u_7_102 rfl ⟨by decide, by decide⟩ ⟨by decide, by decide⟩ rfl (Nat.le_of_ble_eq_true rfl) dX9_victimBut_25 rfl rfl ?_
      refine Vw.bipush (pc := 28) (v := (7 : Int32)) K (by decide) dX9_victimBut_28 ?_
      refine Vw.iadd (pc := 30) K dX9_victimBut_30 ?_
      obtain ⟨g17, h⟩ := wgd h
      refine Vw.laload (pc := 31) K g12 g17 dX9_victimBut_31 ?_
      refine Vw.lload_n (pc := 32) (x := x1) K dX9_victimBut_32 rfl ?_
      refine Vw.lcmp_eq (pc := 33) (tgt := 54) K dX9_victimBut_33 dX9_victimBut_34 (by decide) (fun c18 => ?_) (fun c18 => ?_)
      · have h := wpos c18 h
        exact Vw.loc rfl (s_X9_victimBut_54 K E hr6 h)
      · have h := wneg c18 h
        refine Vw.iload_n (pc := 37) (x := x3) K dX9_victimBut_37 rfl ?_
        refine Vw.if_eq (pc := 38) (tgt := 50) K dX9_victimBut_38 (by decide) (fun c19 => ?_) (fun c19 => ?_)
        · have h := wpos c19 h
          exact Vw.loc rfl (s_X9_victimBut_50 K E hr6 h)
        · have h := wneg c19 h
          refine Vw.aload_n (pc := 41) (x := x0) K dX9_victimBut_41 rfl ?_
          refine Vw.iload (pc := 42) (x := x5) K dX9_victimBut_42 rfl ?_
          obtain ⟨v21, e20, h⟩ := wbd h
          refine Vw.cV1 (pc := 44) (v := .inl v21) (c' := 0) (n' := 0) K (s_X9_isOfNew K.tr e20) cal_X9_isOfNew cls7 u_7_146 g11 rfl ⟨by decide, by decide⟩ ⟨by decide, by decide⟩ rfl (Nat.le_of_ble_eq_true rfl) dX9_victimBut_44 rfl rfl ?_
          refine Vw.if_eq (pc := 47) (tgt := 54) K dX9_victimBut_47 (by decide) (fun c22 => ?_) (fun c22 => ?_)
          · have h := wpos c22 h
            exact Vw.loc rfl (s_X9_victimBut_54 K E hr6 h)
          · have h := wneg c22 h
            exact Vw.loc rfl (s_X9_victimBut_50 K E hr6 h)
def f_X9_victimBut (A : Hp) (x0 : Nat) (x1 : Int64) (x3 : Int32) : Option (Int32) := k_X9_victimBut_6 A x0 x1 x3 FU (-1 : Int32) (0 : Int32)
set_option maxRecDepth 100000 in
theorem s_X9_victimBut {l : Launch} {g : GT} (hl : l.stackTraces = false) {A : Hp} {x0 : Nat} {x1 : Int64} {x3 : Int32} {r : Int32} (h : f_X9_victimBut A x0 x1 x3 = some r) : MetV l g yX9_victimBut (.code yX9_victimBut cX9_victimBut 7 (some .int)) [.inr (.inr x0), .inr (.inl x1), .inl x3] A (.inl (some (.inl r))) A 6 147 0 0 := by
  refine MetV.ofV hl (by decide +kernel) (Nat.le_of_ble_eq_true rfl) (fun κ K E => ?_)
  have K : Cx κ cX9_victimBut 7 RX9 6 147 0 0 := K
  have E : Ed κ (some .int) "victimBut" (.inl (some (.inl r))) A 0 0 := E
  unfold f_X9_victimBut at h
  change Vw κ A 0 0 0 [(0, .inr (.inr x0)), (1, .inr (.inl x1)), (3, .inl x3)] []
  refine Vw.iconst (pc := 0) (v := (-1 : Int32)) K (by decide) dX9_victimBut_0 ?_
  refine Vw.istore (pc := 1) K dX9_victimBut_1 (by decide) ?_
  refine Vw.iconst (pc := 3) (v := (0 : Int32)) K (by decide) dX9_victimBut_3 ?_
  refine Vw.istore (pc := 4) K dX9_victimBut_4 (by decide) ?_
  exact Vw.loc rfl (s_X9_victimBut_6 K E  _ _ _ h)
theorem cal_X9_victimBut : wCalV RX9 yX9_victimBut (.code yX9_victimBut cX9_victimBut 7 (some .int)) 2 := ⟨by decide +kernel, u_7_152, us_5_13, u_1_9, u_7_153⟩
def k_X9_evicts_52s  (x0 : Nat) (x1 : Int64)  (rec52 : Hp → Int32 → Option (Hp)) (A : Hp) (x3 : Int32) : Option (Hp) := (if (42 : Int32) ≤ x3 then some A else if (hsh A x0).1 = 8 then if (hsh A (hgR A 448 x0 0)).1 = 11 then if wix (5 : Int32) (hsh A (hgR A 448 x0 0)).2 then if wix (3 : Int32) (hsh A (hgR A 448 x0 0)).2 then (if (hgL A 1035 (hgR A 448 x0 0) (5 : Int32).toNatClampNeg) ≤ (hgL A 1035 (hgR A 448 x0 0) (3 : Int32).toNatClampNeg) then some A else ((f_X9_victimBut A x0 x1 (0 : Int32)).bind fun v8 => ((f_X9_goes A x0 v8).bind fun A10 => if (hsh A10 x0).1 = 8 then if (hsh A10 (hgR A10 448 x0 0)).1 = 11 then if wix (14 : Int32) (hsh A10 (hgR A10 448 x0 0)).2 then rec52 (hsL A10 1035 (hgR A10 448 x0 0) (14 : Int32).toNatClampNeg ((hgL A10 1035 (hgR A10 448 x0 0) (14 : Int32).toNatClampNeg) + (1 : Int64))) (x3 + (1 : Int32)) else none else none else none))) else none else none else none else none)
def k_X9_evicts_52  (x0 : Nat) (x1 : Int64)  : Nat → Hp → Int32 → Option (Hp)
  | 0 => fun _ _ => none
  | fu + 1 => k_X9_evicts_52s x0 x1  (k_X9_evicts_52 x0 x1  fu)
set_option maxRecDepth 100000 in
theorem s_X9_evicts_52 {κ : KT} {B : Hp}  {x0 : Nat} {x1 : Int64}  (K : Cx κ cX9_evicts 4 RX9 7 173 0 0) (E : Ed κ none "evicts" (.inl none) B 0 0)  : ∀ (fu : Nat) (A : Hp) (x3 : Int32),  k_X9_evicts_52 x0 x1  fu A x3 = some B → Vw κ A 0 0 52 [(0, .inr (.inr x0)), (1, .inr (.inl x1)), (3, .inl x3)] [] := by
  intro fu
  induction fu with
  | zero => intro A x3 h; cases h
  | succ fu hr52 =>
    intro A x3 h
    have h : k_X9_evicts_52s x0 x1  (k_X9_evicts_52 x0 x1  fu) A x3 = some B := h
    unfold k_X9_evicts_52s at h
    refine Vw.iload_n (pc := 52) (x := x3) K dX9_evicts_52 rfl ?_
    refine Vw.bipush (pc := 53) (v := (42 : Int32)) K (by decide) dX9_evicts_53 ?_
    refine Vw.icmp_ge (pc := 55) (tgt := 101) K dX9_evicts_55 (by decide) (fun c1 => ?_) (fun c1 => ?_)
    · have h := wpos c1 h
      exact Vw.vretE (pc := 101) K (Option.some.inj h) E (by decide) (by decide) dX9_evicts_101
    · have h := wneg c1 h
      refine Vw.aload_n (pc := 58) (x := x0) K dX9_evicts_58 rfl ?_
      obtain ⟨g2, h⟩ := wgd h
      refine Vw.getR (pc := 59) (k := 0) (f := 448) K cls7 rfl rfl u_6_17 g2 dX9_evicts_59 ?_
      refine Vw.iconst (pc := 62) (v := (5 : Int32)) K (by decide) dX9_evicts_62 ?_
      obtain ⟨g3, h⟩ := wgd h
      obtain ⟨g4, h⟩ := wgd h
      refine Vw.laload (pc := 63) K g3 g4 dX9_evicts_63 ?_
      refine Vw.aload_n (pc := 64) (x := x0) K dX9_evicts_64 rfl ?_
      refine Vw.getR (pc := 65) (k := 0) (f := 448) K cls7 rfl rfl u_6_17 g2 dX9_evicts_65 ?_
      refine Vw.iconst (pc := 68) (v := (3 : Int32)) K (by decide) dX9_evicts_68 ?_
      obtain ⟨g5, h⟩ := wgd h
      refine Vw.laload (pc := 69) K g3 g5 dX9_evicts_69 ?_
      refine Vw.lcmp_le (pc := 70) (tgt := 101) K dX9_evicts_70 dX9_evicts_71 (by decide) (fun c6 => ?_) (fun c6 => ?_)
      · have h := wpos c6 h
        exact Vw.vretE (pc := 101) K (Option.some.inj h) E (by decide) (by decide) dX9_evicts_101
      · have h := wneg c6 h
        refine Vw.aload_n (pc := 74) (x := x0) K dX9_evicts_74 rfl ?_
        refine Vw.aload_n (pc := 75) (x := x0) K dX9_evicts_75 rfl ?_
        refine Vw.lload_n (pc := 76) (x := x1) K dX9_evicts_76 rfl ?_
        refine Vw.iconst (pc := 77) (v := (0 : Int32)) K (by decide) dX9_evicts_77 ?_
        obtain ⟨v8, e7, h⟩ := wbd h
        refine Vw.cV1 (pc := 78) (v := .inl v8) (c' := 0) (n' := 0) K (s_X9_victimBut K.tr e7) cal_X9_victimBut cls7 u_7_150 g2 rfl ⟨by decide, by decide⟩ ⟨by decide, by decide⟩ rfl (Nat.le_of_ble_eq_true rfl) dX9_evicts_78 rfl rfl ?_
        obtain ⟨A10, e9, h⟩ := wbd h
        refine Vw.cV0 (pc := 81) (c' := 0) (n' := 0) K (s_X9_goes K.tr e9) cal_X9_goes cls7 u_7_134 g2 rfl ⟨by decide, by decide⟩ ⟨by decide, by decide⟩ rfl (Nat.le_of_ble_eq_true rfl) dX9_evicts_81 rfl rfl ?_
        refine Vw.aload_n (pc := 84) (x := x0) K dX9_evicts_84 rfl ?_
        obtain ⟨g11, h⟩ := wgd h
        refine Vw.getR (pc := 85) (k := 0) (f := 448) K cls7 rfl rfl u_6_17 g11 dX9_evicts_85 ?_
        refine Vw.bipush (pc := 88) (v := (14 : Int32)) K (by decide) dX9_evicts_88 ?_
        refine Vw.dup2 (pc := 90) K rfl rfl dX9_evicts_90 ?_
        obtain ⟨g12, h⟩ := wgd h
        obtain ⟨g13, h⟩ := wgd h
        refine Vw.laload (pc := 91) K g12 g13 dX9_evicts_91 ?_
        refine Vw.lconst (pc := 92) (v := (1 : Int64)) K (by decide) dX9_evicts_92 ?_
        refine Vw.ladd (pc := 93) K dX9_evicts_93 ?_
        refine Vw.lastore (pc := 94) K g12 g13 dX9_evicts_94 ?_
        refine Vw.iinc (pc := 95) (x := x3) (v := (1 : Int32)) K dX9_evicts_95 rfl (by decide) (by decide) ?_
        refine Vw.goto (pc := 98) (tgt := 52) K dX9_evicts_98 (by decide) ?_
        exact Vw.loc rfl (hr52 _ _ h)
def k_X9_evicts_50  (A : Hp) (x0 : Nat) (x1 : Int64)  : Option (Hp) := k_X9_evicts_52 x0 x1 FU A (0 : Int32)
set_option maxRecDepth 100000 in
theorem s_X9_evicts_50 {κ : KT} {B : Hp} {A : Hp} {x0 : Nat} {x1 : Int64}   (K : Cx κ cX9_evicts 4 RX9 7 173 0 0) (E : Ed κ none "evicts" (.inl none) B 0 0)  (h : k_X9_evicts_50  A x0 x1  = some B) : Vw κ A 0 0 50 [(0, .inr (.inr x0)), (1, .inr (.inl x1))] [] := by
  unfold k_X9_evicts_50 at h
  refine Vw.iconst (pc := 50) (v := (0 : Int32)) K (by decide) dX9_evicts_50 ?_
  refine Vw.istore_n (pc := 51) K dX9_evicts_51 (by decide) ?_
  exact Vw.loc rfl (s_X9_evicts_52 K E  _ _ _ h)
def k_X9_evicts_2s  (x0 : Nat) (x1 : Int64)  (rec2 : Hp → Int32 → Option (Hp)) (A : Hp) (x3 : Int32) : Option (Hp) := (if (42 : Int32) ≤ x3 then k_X9_evicts_50 A x0 x1 else if (hsh A x0).1 = 8 then ((f_X9_ofSite A x0).bind fun v17 => if (hsh A (hgR A 448 x0 0)).1 = 11 then if wix (2 : Int32) (hsh A (hgR A 448 x0 0)).2 then (if v17.toInt64 ≤ (hgL A 1035 (hgR A 448 x0 0) (2 : Int32).toNatClampNeg) then k_X9_evicts_50 A x0 x1 else ((f_X9_victimBut A x0 x1 (1 : Int32)).bind fun v22 => ((f_X9_goes A x0 v22).bind fun A24 => if (hsh A24 x0).1 = 8 then if (hsh A24 (hgR A24 448 x0 0)).1 = 11 then if wix (14 : Int32) (hsh A24 (hgR A24 448 x0 0)).2 then rec2 (hsL A24 1035 (hgR A24 448 x0 0) (14 : Int32).toNatClampNeg ((hgL A24 1035 (hgR A24 448 x0 0) (14 : Int32).toNatClampNeg) + (1 : Int64))) (x3 + (1 : Int32)) else none else none else none))) else none else none) else none)
def k_X9_evicts_2  (x0 : Nat) (x1 : Int64)  : Nat → Hp → Int32 → Option (Hp)
  | 0 => fun _ _ => none
  | fu + 1 => k_X9_evicts_2s x0 x1  (k_X9_evicts_2 x0 x1  fu)
set_option maxRecDepth 100000 in
theorem s_X9_evicts_2 {κ : KT} {B : Hp}  {x0 : Nat} {x1 : Int64}  (K : Cx κ cX9_evicts 4 RX9 7 173 0 0) (E : Ed κ none "evicts" (.inl none) B 0 0)  : ∀ (fu : Nat) (A : Hp) (x3 : Int32),  k_X9_evicts_2 x0 x1  fu A x3 = some B → Vw κ A 0 0 2 [(0, .inr (.inr x0)), (1, .inr (.inl x1)), (3, .inl x3)] [] := by
  intro fu
  induction fu with
  | zero => intro A x3 h; cases h
  | succ fu hr2 =>
    intro A x3 h
    have h : k_X9_evicts_2s x0 x1  (k_X9_evicts_2 x0 x1  fu) A x3 = some B := h
    unfold k_X9_evicts_2s at h
    refine Vw.iload_n (pc := 2) (x := x3) K dX9_evicts_2 rfl ?_
    refine Vw.bipush (pc := 3) (v := (42 : Int32)) K (by decide) dX9_evicts_3 ?_
    refine Vw.icmp_ge (pc := 5) (tgt := 50) K dX9_evicts_5 (by decide) (fun c14 => ?_) (fun c14 => ?_)
    · have h := wpos c14 h
      exact Vw.loc rfl (s_X9_evicts_50 K E  h)
    · have h := wneg c14 h
      refine Vw.aload_n (pc := 8) (x := x0) K dX9_evicts_8 rfl ?_
      obtain ⟨g15, h⟩ := wgd h
      obtain ⟨v17, e16, h⟩ := wbd h
      refine Vw.cV1 (pc := 9) (v := .inl v17) (c' := 0) (n' := 0) K (s_X9_ofSite K.tr e16) cal_X9_ofSite cls7 u_7_142 g15 rfl ⟨by decide, by decide⟩ ⟨by decide, by decide⟩ rfl (Nat.le_of_ble_eq_true rfl) dX9_evicts_9 rfl rfl ?_
      refine Vw.i2l (pc := 12) K dX9_evicts_12 ?_
      refine Vw.aload_n (pc := 13) (x := x0) K dX9_evicts_13 rfl ?_
      refine Vw.getR (pc := 14) (k := 0) (f := 448) K cls7 rfl rfl u_6_17 g15 dX9_evicts_14 ?_
      refine Vw.iconst (pc := 17) (v := (2 : Int32)) K (by decide) dX9_evicts_17 ?_
      obtain ⟨g18, h⟩ := wgd h
      obtain ⟨g19, h⟩ := wgd h
      refine Vw.laload (pc := 18) K g18 g19 dX9_evicts_18 ?_
      refine Vw.lcmp_le (pc := 19) (tgt := 50) K dX9_evicts_19 dX9_evicts_20 (by decide) (fun c20 => ?_) (fun c20 => ?_)
      · have h := wpos c20 h
        exact Vw.loc rfl (s_X9_evicts_50 K E  h)
      · have h := wneg c20 h
        refine Vw.aload_n (pc := 23) (x := x0) K dX9_evicts_23 rfl ?_
        refine Vw.aload_n (pc := 24) (x := x0) K dX9_evicts_24 rfl ?_
        refine Vw.lload_n (pc := 25) (x := x1) K dX9_evicts_25 rfl ?_
        refine Vw.iconst (pc := 26) (v := (1 : Int32)) K (by decide) dX9_evicts_26 ?_
        obtain ⟨v22, e21, h⟩ := wbd h
        refine Vw.cV1 (pc := 27) (v := .inl v22) (c' := 0) (n' := 0) K (s_X9_victimBut K.tr e21) cal_X9_victimBut cls7 u_7_150 g15 rfl ⟨by decide, by decide⟩ ⟨by decide, by decide⟩ rfl (Nat.le_of_ble_eq_true rfl) dX9_evicts_27 rfl rfl ?_
        obtain ⟨A24, e23, h⟩ := wbd h
        refine Vw.cV0 (pc := 30) (c' := 0) (n' := 0) K (s_X9_goes K.tr e23) cal_X9_goes cls7 u_7_134 g15 rfl ⟨by decide, by decide⟩ ⟨by decide, by decide⟩ rfl (Nat.le_of_ble_eq_true rfl) dX9_evicts_30 rfl rfl ?_
        refine Vw.aload_n (pc := 33) (x := x0) K dX9_evicts_33 rfl ?_
        obtain ⟨g25, h⟩ := wgd h
        refine Vw.getR (pc := 34) (k := 0) (f := 448) K cls7 rfl rfl u_6_17 g25 dX9_evicts_34 ?_
        refine Vw.bipush (pc := 37) (v := (14 : Int32)) K (by decide) dX9_evicts_37 ?_
        refine Vw.dup2 (pc := 39) K rfl rfl dX9_evicts_39 ?_
        obtain ⟨g26, h⟩ := wgd h
        obtain ⟨g27, h⟩ := wgd h
        refine Vw.laload (pc := 40) K g26 g27 dX9_evicts_40 ?_
        refine Vw.lconst (pc := 41) (v := (1 : Int64)) K (by decide) dX9_evicts_41 ?_
        refine Vw.ladd (pc := 42) K dX9_evicts_42 ?_
        refine Vw.lastore (pc := 43) K g26 g27 dX9_evicts_43 ?_
        refine Vw.iinc (pc := 44) (x := x3) (v := (1 : Int32)) K dX9_evicts_44 rfl (by decide) (by decide) ?_
        refine Vw.goto (pc := 47) (tgt := 2) K dX9_evicts_47 (by decide) ?_
        exact Vw.loc rfl (hr2 _ _ h)
def f_X9_evicts (A : Hp) (x0 : Nat) (x1 : Int64) : Option (Hp) := k_X9_evicts_2 x0 x1 FU A (0 : Int32)
set_option maxRecDepth 100000 in
theorem s_X9_evicts {l : Launch} {g : GT} (hl : l.stackTraces = false) {A : Hp} {x0 : Nat} {x1 : Int64} {B : Hp} (h : f_X9_evicts A x0 x1 = some B) : MetV l g yX9_evicts (.code yX9_evicts cX9_evicts 4 none) [.inr (.inr x0), .inr (.inl x1)] A (.inl none) B 7 173 0 0 := by
  refine MetV.ofV hl (by decide +kernel) (Nat.le_of_ble_eq_true rfl) (fun κ K E => ?_)
  have K : Cx κ cX9_evicts 4 RX9 7 173 0 0 := K
  have E : Ed κ none "evicts" (.inl none) B 0 0 := E
  unfold f_X9_evicts at h
  change Vw κ A 0 0 0 [(0, .inr (.inr x0)), (1, .inr (.inl x1))] []
  refine Vw.iconst (pc := 0) (v := (0 : Int32)) K (by decide) dX9_evicts_0 ?_
  refine Vw.istore_n (pc := 1) K dX9_evicts_1 (by decide) ?_
  exact Vw.loc rfl (s_X9_evicts_2 K E  _ _ _ h)
theorem cal_X9_evicts : wCalV RX9 yX9_evicts (.code yX9_evicts cX9_evicts 4 none) 1 := ⟨by decide +kernel, u_7_140, us_5_10, u_1_9, u_7_141⟩
def k_X9_receive_252  (A : Hp) (x0 : Nat) (x4 : Int32) (t0 : Nat) (t1 : Int32) (t2 : Int64) (t3 : Int64) : Option (Int32 × Hp) := if (hsh A t0).1 = 11 then if wix t1 (hsh A t0).2 then if (hsh (hsL A 1035 t0 t1.toNatClampNeg (t2 + t3)) x0).1 = 8 then if (hsh (hsL A 1035 t0 t1.toNatClampNeg (t2 + t3)) (hgR (hsL A 1035 t0 t1.toNatClampNeg (t2 + t3)) 448 x0 0)).1 = 11 then if wix (8607 : Int32) (hsh (hsL A 1035 t0 t1.toNatClampNeg (t2 + t3)) (hgR (hsL A 1035 t0 t1.toNatClampNeg (t2 + t3)) 448 x0 0)).2 then ((f_X9_evicts (hsL A 1035 t0 t1.toNatClampNeg (t2 + t3)) x0 (hgL (hsL A 1035 t0 t1.toNatClampNeg (t2 + t3)) 1035 (hgR (hsL A 1035 t0 t1.toNatClampNeg (t2 + t3)) 448 x0 0) (8607 : Int32).toNatClampNeg)).bind fun A7 => (if (0 : Int32) ≤ x4 then if (hsh A7 x0).1 = 8 then ((f_X9_happens A7 x0 (1 : Int32) (2 : Int32)).bind fun p11 => some (p11.1, p11.2)) else none else if (hsh A7 x0).1 = 8 then ((f_X9_happens A7 x0 (0 : Int32) (1 : Int32)).bind fun p14 => some (p14.1, p14.2)) else none)) else none else none else none else none else none
set_option maxRecDepth 100000 in
theorem s_X9_receive_252 {κ : KT} {r : Int32} {B : Hp} {A : Hp} {x0 : Nat} {x4 : Int32} {t0 : Nat} {t1 : Int32} {t2 : Int64} {t3 : Int64}  (K : Cx κ cX9_receive 5 RX9 8 196 0 0) (E : Ed κ (some .int) "receive" (.inl (some (.inl r))) B 0 0)  (h : k_X9_receive_252  A x0 x4 t0 t1 t2 t3 = some (r, B)) : Vw κ A 0 0 252 [(0, .inr (.inr x0)), (4, .inl x4)] [.inr (.inl t3), .inr (.inl t2), .inl t1, .inr (.inr t0)] := by
  unfold k_X9_receive_252 at h
  refine Vw.ladd (pc := 252) K dX9_receive_252 ?_
  obtain ⟨g1, h⟩ := wgd h
  obtain ⟨g2, h⟩ := wgd h
  refine Vw.lastore (pc := 253) K g1 g2 dX9_receive_253 ?_
  refine Vw.aload_n (pc := 254) (x := x0) K dX9_receive_254 rfl ?_
  refine Vw.aload_n (pc := 255) (x := x0) K dX9_receive_255 rfl ?_
  obtain ⟨g3, h⟩ := wgd h
  refine Vw.getR (pc := 256) (k := 0) (f := 448) K cls7 rfl rfl u_6_17 g3 dX9_receive_256 ?_
  refine Vw.sipush (pc := 259) (v := (8607 : Int32)) K (by decide) dX9_receive_259 ?_
  obtain ⟨g4, h⟩ := wgd h
  obtain ⟨g5, h⟩ := wgd h
  refine Vw.laload (pc := 262) K g4 g5 dX9_receive_262 ?_
  obtain ⟨A7, e6, h⟩ := wbd h
  refine Vw.cV0 (pc := 263) (c' := 0) (n' := 0) K (s_X9_evicts K.tr e6) cal_X9_evicts cls7 u_7_138 g3 rfl ⟨by decide, by decide⟩ ⟨by decide, by decide⟩ rfl (Nat.le_of_ble_eq_true rfl) dX9_receive_263 rfl rfl ?_
  refine Vw.iload (pc := 266) (x := x4) K dX9_receive_266 rfl ?_
  refine Vw.if_ge (pc := 268) (tgt := 280) K dX9_receive_268 (by decide) (fun c8 => ?_) (fun c8 => ?_)
  · have h := wpos c8 h
    refine Vw.aload_n (pc := 280) (x := x0) K dX9_receive_280 rfl ?_
    refine Vw.iconst (pc := 281) (v := (1 : Int32)) K (by decide) dX9_receive_281 ?_
    refine Vw.iconst (pc := 282) (v := (2 : Int32)) K (by decide) dX9_receive_282 ?_
    obtain ⟨g9, h⟩ := wgd h
    obtain ⟨p11, e10, h⟩ := wbd h
    refine Vw.cV1 (pc := 283) (v := .inl p11.1) (c' := 0) (n' := 0) K (s_X9_happens K.tr e10) cal_X9_happens cls7 u_7_125 g9 rfl ⟨by decide, by decide⟩ ⟨by decide, by decide⟩ rfl (Nat.le_of_ble_eq_true rfl) dX9_receive_283 rfl rfl ?_
    exact Vw.iretH (pc := 286) K h E (by decide) (by decide) dX9_receive_286
  · have h := wneg c8 h
    refine Vw.aload_n (pc := 271) (x := x0) K dX9_receive_271 rfl ?_
    refine Vw.iconst (pc := 272) (v := (0 : Int32)) K (by decide) dX9_receive_272 ?_
    refine Vw.iconst (pc := 273) (v := (1 : Int32)) K (by decide) dX9_receive_273 ?_
    obtain ⟨g12, h⟩ := wgd h
    obtain ⟨p14, e13, h⟩ := wbd h
    refine Vw.cV1 (pc := 274) (v := .inl p14.1) (c' := 0) (n' := 0) K (s_X9_happens K.tr e13) cal_X9_happens cls7 u_7_125 g12 rfl ⟨by decide, by decide⟩ ⟨by decide, by decide⟩ rfl (Nat.le_of_ble_eq_true rfl) dX9_receive_274 rfl rfl ?_
    refine Vw.goto (pc := 277) (tgt := 286) K dX9_receive_277 (by decide) ?_
    exact Vw.iretH (pc := 286) K h E (by decide) (by decide) dX9_receive_286
def k_X9_receive_229  (A : Hp) (x0 : Nat) (x4 : Int32) (t0 : Nat) (t1 : Int32) (t2 : Int32) (t3 : Int32) : Option (Int32 × Hp) := ((f_X9_cookie A t3).bind fun v16 => if (hsh A t0).1 = 8 then ((f_X9_copies A t0 t1 t2 v16).bind fun A19 => if (hsh A19 x0).1 = 8 then if (hsh A19 (hgR A19 448 x0 0)).1 = 11 then if wix (5 : Int32) (hsh A19 (hgR A19 448 x0 0)).2 then (if (0 : Int32) ≤ x4 then k_X9_receive_252 A19 x0 x4 (hgR A19 448 x0 0) (5 : Int32) (hgL A19 1035 (hgR A19 448 x0 0) (5 : Int32).toNatClampNeg) (0 : Int64) else k_X9_receive_252 A19 x0 x4 (hgR A19 448 x0 0) (5 : Int32) (hgL A19 1035 (hgR A19 448 x0 0) (5 : Int32).toNatClampNeg) (1 : Int64)) else none else none else none) else none)
set_option maxRecDepth 100000 in
theorem s_X9_receive_229 {κ : KT} {r : Int32} {B : Hp} {A : Hp} {x0 : Nat} {x4 : Int32} {t0 : Nat} {t1 : Int32} {t2 : Int32} {t3 : Int32}  (K : Cx κ cX9_receive 5 RX9 8 196 0 0) (E : Ed κ (some .int) "receive" (.inl (some (.inl r))) B 0 0)  (h : k_X9_receive_229  A x0 x4 t0 t1 t2 t3 = some (r, B)) : Vw κ A 0 0 229 [(0, .inr (.inr x0)), (4, .inl x4)] [.inl t3, .inl t2, .inl t1, .inr (.inr t0)] := by
  unfold k_X9_receive_229 at h
  obtain ⟨v16, e15, h⟩ := wbd h
  refine Vw.cS1 (pc := 229) (v := .inl v16) (c' := 0) (n' := 0) K (s_X9_cookie K.tr e15) cal_X9_cookie u_7_102 rfl ⟨by decide, by decide⟩ ⟨by decide, by decide⟩ rfl (Nat.le_of_ble_eq_true rfl) dX9_receive_229 rfl rfl ?_
  obtain ⟨g17, h⟩ := wgd h
  obtain ⟨A19, e18, h⟩ := wbd h
  refine Vw.cV0 (pc := 232) (c' := 0) (n' := 0) K (s_X9_copies K.tr e18) cal_X9_copies cls7 u_6_170 g17 rfl ⟨by decide, by decide⟩ ⟨by decide, by decide⟩ rfl (Nat.le_of_ble_eq_true rfl) dX9_receive_232 rfl rfl ?_
  refine Vw.aload_n (pc := 235) (x := x0) K dX9_receive_235 rfl ?_
  obtain ⟨g20, h⟩ := wgd h
  refine Vw.getR (pc := 236) (k := 0) (f := 448) K cls7 rfl rfl u_6_17 g20 dX9_receive_236 ?_
  refine Vw.iconst (pc := 239) (v := (5 : Int32)) K (by decide) dX9_receive_239 ?_
  refine Vw.dup2 (pc := 240) K rfl rfl dX9_receive_240 ?_
  obtain ⟨g21, h⟩ := wgd h
  obtain ⟨g22, h⟩ := wgd h
  refine Vw.laload (pc := 241) K g21 g22 dX9_receive_241 ?_
  refine Vw.iload (pc := 242) (x := x4) K dX9_receive_242 rfl ?_
  refine Vw.if_ge (pc := 244) (tgt := 251) K dX9_receive_244 (by decide) (fun c23 => ?_) (fun c23 => ?_)
  · have h := wpos c23 h
    refine Vw.lconst (pc := 251) (v := (0 : Int64)) K (by decide) dX9_receive_251 ?_
    exact Vw.loc rfl (s_X9_receive_252 K E  h)
  · have h := wneg c23 h
    refine Vw.lconst (pc := 247) (v := (1 : Int64)) K (by decide) dX9_receive_247 ?_
    refine Vw.goto (pc := 248) (tgt := 252) K dX9_receive_248 (by decide) ?_
    exact Vw.loc rfl (s_X9_receive_252 K E  h)
def k_X9_receive_203  (A : Hp) (x0 : Nat) (x4 : Int32) (t0 : Nat) (t1 : Int32) (t2 : Int64) (t3 : Int64) : Option (Int32 × Hp) := if (hsh A t0).1 = 11 then if wix t1 (hsh A t0).2 then (if (0 : Int32) ≤ x4 then k_X9_receive_229 (hsL A 1035 t0 t1.toNatClampNeg (t2 + t3)) x0 x4 x0 (8600 : Int32) (140 : Int32) x4 else if (hsh (hsL A 1035 t0 t1.toNatClampNeg (t2 + t3)) x0).1 = 8 then if (hsh (hsL A 1035 t0 t1.toNatClampNeg (t2 + t3)) (hgR (hsL A 1035 t0 t1.toNatClampNeg (t2 + t3)) 448 x0 0)).1 = 11 then if wix (5 : Int32) (hsh (hsL A 1035 t0 t1.toNatClampNeg (t2 + t3)) (hgR (hsL A 1035 t0 t1.toNatClampNeg (t2 + t3)) 448 x0 0)).2 then k_X9_receive_229 (hsL A 1035 t0 t1.toNatClampNeg (t2 + t3)) x0 x4 x0 (8600 : Int32) (140 : Int32) ((hgL (hsL A 1035 t0 t1.toNatClampNeg (t2 + t3)) 1035 (hgR (hsL A 1035 t0 t1.toNatClampNeg (t2 + t3)) 448 x0 0) (5 : Int32).toNatClampNeg).toInt32) else none else none else none) else none else none
set_option maxRecDepth 100000 in
theorem s_X9_receive_203 {κ : KT} {r : Int32} {B : Hp} {A : Hp} {x0 : Nat} {x4 : Int32} {t0 : Nat} {t1 : Int32} {t2 : Int64} {t3 : Int64}  (K : Cx κ cX9_receive 5 RX9 8 196 0 0) (E : Ed κ (some .int) "receive" (.inl (some (.inl r))) B 0 0)  (h : k_X9_receive_203  A x0 x4 t0 t1 t2 t3 = some (r, B)) : Vw κ A 0 0 203 [(0, .inr (.inr x0)), (4, .inl x4)] [.inr (.inl t3), .inr (.inl t2), .inl t1, .inr (.inr t0)] := by
  unfold k_X9_receive_203 at h
  refine Vw.ladd (pc := 203) K dX9_receive_203 ?_
  obtain ⟨g24, h⟩ := wgd h
  obtain ⟨g25, h⟩ := wgd h
  refine Vw.lastore (pc := 204) K g24 g25 dX9_receive_204 ?_
  refine Vw.aload_n (pc := 205) (x := x0) K dX9_receive_205 rfl ?_
  refine Vw.sipush (pc := 206) (v := (8600 : Int32)) K (by decide) dX9_receive_206 ?_
  refine Vw.sipush (pc := 209) (v := (140 : Int32)) K (by decide) dX9_receive_209 ?_
  refine Vw.iload (pc := 212) (x := x4) K dX9_receive_212 rfl ?_
  refine Vw.if_ge (pc := 214) (tgt := 227) K dX9_receive_214 (by decide) (fun c26 => ?_) (fun c26 => ?_)
  · have h := wpos c26 h
    refine Vw.iload (pc := 227) (x := x4) K dX9_receive_227 rfl ?_
    exact Vw.loc rfl (s_X9_receive_229 K E  h)
  · have h := wneg c26 h
    refine Vw.aload_n (pc := 217) (x := x0) K dX9_receive_217 rfl ?_
    obtain ⟨g27, h⟩ := wgd h
    refine Vw.getR (pc := 218) (k := 0) (f := 448) K cls7 rfl rfl u_6_17 g27 dX9_receive_218 ?_
    refine Vw.iconst (pc := 221) (v := (5 : Int32)) K (by decide) dX9_receive_221 ?_
    obtain ⟨g28, h⟩ := wgd h
    obtain ⟨g29, h⟩ := wgd h
    refine Vw.laload (pc := 222) K g28 g29 dX9_receive_222 ?_
    refine Vw.l2i (pc := 223) K dX9_receive_223 ?_
    refine Vw.goto (pc := 224) (tgt := 229) K dX9_receive_224 (by decide) ?_
    exact Vw.loc rfl (s_X9_receive_229 K E  h)
def k_X9_receive_185  (A : Hp) (x0 : Nat) (x4 : Int32) (t0 : Nat) (t1 : Int32) (t2 : Int64) : Option (Int32 × Hp) := if (hsh A t0).1 = 11 then if wix t1 (hsh A t0).2 then if (hsh (hsL A 1035 t0 t1.toNatClampNeg t2) x0).1 = 8 then if (hsh (hsL A 1035 t0 t1.toNatClampNeg t2) (hgR (hsL A 1035 t0 t1.toNatClampNeg t2) 448 x0 0)).1 = 11 then if wix (1 : Int32) (hsh (hsL A 1035 t0 t1.toNatClampNeg t2) (hgR (hsL A 1035 t0 t1.toNatClampNeg t2) 448 x0 0)).2 then (if (0 : Int32) ≤ x4 then k_X9_receive_203 (hsL A 1035 t0 t1.toNatClampNeg t2) x0 x4 (hgR (hsL A 1035 t0 t1.toNatClampNeg t2) 448 x0 0) (1 : Int32) (hgL (hsL A 1035 t0 t1.toNatClampNeg t2) 1035 (hgR (hsL A 1035 t0 t1.toNatClampNeg t2) 448 x0 0) (1 : Int32).toNatClampNeg) (0 : Int64) else k_X9_receive_203 (hsL A 1035 t0 t1.toNatClampNeg t2) x0 x4 (hgR (hsL A 1035 t0 t1.toNatClampNeg t2) 448 x0 0) (1 : Int32) (hgL (hsL A 1035 t0 t1.toNatClampNeg t2) 1035 (hgR (hsL A 1035 t0 t1.toNatClampNeg t2) 448 x0 0) (1 : Int32).toNatClampNeg) (1 : Int64)) else none else none else none else none else none
set_option maxRecDepth 100000 in
theorem s_X9_receive_185 {κ : KT} {r : Int32} {B : Hp} {A : Hp} {x0 : Nat} {x4 : Int32} {t0 : Nat} {t1 : Int32} {t2 : Int64}  (K : Cx κ cX9_receive 5 RX9 8 196 0 0) (E : Ed κ (some .int) "receive" (.inl (some (.inl r))) B 0 0)  (h : k_X9_receive_185  A x0 x4 t0 t1 t2 = some (r, B)) : Vw κ A 0 0 185 [(0, .inr (.inr x0)), (4, .inl x4)] [.inr (.inl t2), .inl t1, .inr (.inr t0)] := by
  unfold k_X9_receive_185 at h
  obtain ⟨g30, h⟩ := wgd h
  obtain ⟨g31, h⟩ := wgd h
  refine Vw.lastore (pc := 185) K g30 g31 dX9_receive_185 ?_
  refine Vw.aload_n (pc := 186) (x := x0) K dX9_receive_186 rfl ?_
  obtain ⟨g32, h⟩ := wgd h
  refine Vw.getR (pc := 187) (k := 0) (f := 448) K cls7 rfl rfl u_6_17 g32 dX9_receive_187 ?_
  refine Vw.iconst (pc := 190) (v := (1 : Int32)) K (by decide) dX9_receive_190 ?_
  refine Vw.dup2 (pc := 191) K rfl rfl dX9_receive_191 ?_
  obtain ⟨g33, h⟩ := wgd h
  obtain ⟨g34, h⟩ := wgd h
  refine Vw.laload (pc := 192) K g33 g34 dX9_receive_192 ?_
  refine Vw.iload (pc := 193) (x := x4) K dX9_receive_193 rfl ?_
  refine Vw.if_ge (pc := 195) (tgt := 202) K dX9_receive_195 (by decide) (fun c35 => ?_) (fun c35 => ?_)
  · have h := wpos c35 h
    refine Vw.lconst (pc := 202) (v := (0 : Int64)) K (by decide) dX9_receive_202 ?_
    exact Vw.loc rfl (s_X9_receive_203 K E  h)
  · have h := wneg c35 h
    refine Vw.lconst (pc := 198) (v := (1 : Int64)) K (by decide) dX9_receive_198 ?_
    refine Vw.goto (pc := 199) (tgt := 203) K dX9_receive_199 (by decide) ?_
    exact Vw.loc rfl (s_X9_receive_203 K E  h)
def k_X9_receive_150  (A : Hp) (x0 : Nat) (x4 : Int32) (t0 : Nat) (t1 : Int32) (t2 : Int64) : Option (Int32 × Hp) := if (hsh A t0).1 = 11 then if wix t1 (hsh A t0).2 then if (hsh (hsL A 1035 t0 t1.toNatClampNeg t2) x0).1 = 8 then (if (0 : Int32) ≤ x4 then ((f_X9_cookie (hsL A 1035 t0 t1.toNatClampNeg t2) x4).bind fun v41 => if (hsh (hsL A 1035 t0 t1.toNatClampNeg t2) (hgR (hsL A 1035 t0 t1.toNatClampNeg t2) 448 x0 0)).1 = 11 then if wix (v41 + (7 : Int32)) (hsh (hsL A 1035 t0 t1.toNatClampNeg t2) (hgR (hsL A 1035 t0 t1.toNatClampNeg t2) 448 x0 0)).2 then k_X9_receive_185 (hsL A 1035 t0 t1.toNatClampNeg t2) x0 x4 (hgR (hsL A 1035 t0 t1.toNatClampNeg t2) 448 x0 0) (8607 : Int32) (hgL (hsL A 1035 t0 t1.toNatClampNeg t2) 1035 (hgR (hsL A 1035 t0 t1.toNatClampNeg t2) 448 x0 0) (v41 + (7 : Int32)).toNatClampNeg) else none else none) else if (hsh (hsL A 1035 t0 t1.toNatClampNeg t2) (hgR (hsL A 1035 t0 t1.toNatClampNeg t2) 448 x0 0)).1 = 11 then if wix (1 : Int32) (hsh (hsL A 1035 t0 t1.toNatClampNeg t2) (hgR (hsL A 1035 t0 t1.toNatClampNeg t2) 448 x0 0)).2 then k_X9_receive_185 (hsL A 1035 t0 t1.toNatClampNeg t2) x0 x4 (hgR (hsL A 1035 t0 t1.toNatClampNeg t2) 448 x0 0) (8607 : Int32) (hgL (hsL A 1035 t0 t1.toNatClampNeg t2) 1035 (hgR (hsL A 1035 t0 t1.toNatClampNeg t2) 448 x0 0) (1 : Int32).toNatClampNeg) else none else none) else none else none else none
set_option maxRecDepth 100000 in
theorem s_X9_receive_150 {κ : KT} {r : Int32} {B : Hp} {A : Hp} {x0 : Nat} {x4 : Int32} {t0 : Nat} {t1 : Int32} {t2 : Int64}  (K : Cx κ cX9_receive 5 RX9 8 196 0 0) (E : Ed κ (some .int) "receive" (.inl (some (.inl r))) B 0 0)  (h : k_X9_receive_150  A x0 x4 t0 t1 t2 = some (r, B)) : Vw κ A 0 0 150 [(0, .inr (.inr x0)), (4, .inl x4)] [.inr (.inl t2), .inl t1, .inr (.inr t0)] := by
  unfold k_X9_receive_150 at h
  obtain ⟨g36, h⟩ := wgd h
  obtain ⟨g37, h⟩ := wgd h
  refine Vw.lastore (pc := 150) K g36 g37 dX9_receive_150 ?_
  refine Vw.aload_n (pc := 151) (x := x0) K dX9_receive_151 rfl ?_
  obtain ⟨g38, h⟩ := wgd h
  refine Vw.getR (pc := 152) (k := 0) (f := 448) K cls7 rfl rfl u_6_17 g38 dX9_receive_152 ?_
  refine Vw.sipush (pc := 155) (v := (8607 : Int32)) K (by decide) dX9_receive_155 ?_
  refine Vw.iload (pc := 158) (x := x4) K dX9_receive_158 rfl ?_
  refine Vw.if_ge (pc := 160) (tgt := 172) K dX9_receive_160 (by decide) (fun c39 => ?_) (fun c39 => ?_)
  · have h := wpos c39 h
    refine Vw.aload_n (pc := 172) (x := x0) K dX9_receive_172 rfl ?_
    refine Vw.getR (pc := 173) (k := 0) (f := 448) K cls7 rfl rfl u_6_17 g38 dX9_receive_173 ?_
    refine Vw.iload (pc := 176) (x := x4) K dX9_receive_176 rfl ?_
    obtain ⟨v41, e40, h⟩ := wbd h
    refine Vw.cS1 (pc := 178) (v := .inl v41) (c' := 0) (n' := 0) K (s_X9_cookie K.tr e40) cal_X9_cookie u_7_102 rfl ⟨by decide, by decide⟩ ⟨by decide, by decide⟩ rfl (Nat.le_of_ble_eq_true rfl) dX9_receive_178 rfl rfl ?_
    refine Vw.bipush (pc := 181) (v := (7 : Int32)) K (by decide) dX9_receive_181 ?_
    refine Vw.iadd (pc := 183) K dX9_receive_183 ?_
    obtain ⟨g42, h⟩ := wgd h
    obtain ⟨g43, h⟩ := wgd h
    refine Vw.laload (pc := 184) K g42 g43 dX9_receive_184 ?_
    exact Vw.loc rfl (s_X9_receive_185 K E  h)
  · have h := wneg c39 h
    refine Vw.aload_n (pc := 163) (x := x0) K dX9_receive_163 rfl ?_
    refine Vw.getR (pc := 164) (k := 0) (f := 448) K cls7 rfl rfl u_6_17 g38 dX9_receive_164 ?_
    refine Vw.iconst (pc := 167) (v := (1 : Int32)) K (by decide) dX9_receive_167 ?_
    obtain ⟨g44, h⟩ := wgd h
    obtain ⟨g45, h⟩ := wgd h
    refine Vw.laload (pc := 168) K g44 g45 dX9_receive_168 ?_
    refine Vw.goto (pc := 169) (tgt := 185) K dX9_receive_169 (by decide) ?_
    exact Vw.loc rfl (s_X9_receive_185 K E  h)
def f_X9_receive (A : Hp) (x0 : Nat) (x1 : Int32) : Option (Int32 × Hp) := if (hsh A x0).1 = 8 then if (hsh (hsI A 452 x0 0 (0 : Int32)) (hgR (hsI A 452 x0 0 (0 : Int32)) 448 x0 0)).1 = 11 then if wix (100 : Int32) (hsh (hsI A 452 x0 0 (0 : Int32)) (hgR (hsI A 452 x0 0 (0 : Int32)) 448 x0 0)).2 then (if (hgL (hsI A 452 x0 0 (0 : Int32)) 1035 (hgR (hsI A 452 x0 0 (0 : Int32)) 448 x0 0) (100 : Int32).toNatClampNeg) = (0 : Int64) then ((f_X9_fails (hsI A 452 x0 0 (0 : Int32)) x0 (1 : Int32)).bind fun p88 => some (p88.1, p88.2)) else ((f_X9_readsCookie (hsI A 452 x0 0 (0 : Int32)) x0).bind fun A51 => if (hsh A51 x0).1 = 8 then ((f_X9_fillsCookie A51 x0).bind fun A54 => if (hsh A54 x0).1 = 8 then ((f_X9_cause A54 x0 x1).bind fun v57 => if (hsh A54 (hgR A54 448 x0 0)).1 = 11 then if wix (7 : Int32) (hsh A54 (hgR A54 448 x0 0)).2 then (if v57 = (0 : Int32) then ((f_X9_expires (hsI (hsL A54 1035 (hgR A54 448 x0 0) (7 : Int32).toNatClampNeg v57.toInt64) 451 x0 0 (0 : Int32)) x0).bind fun p62 => if (hsh p62.2 x0).1 = 8 then ((f_X9_elder p62.2 x0).bind fun v65 => (if p62.1 = (0 : Int32) then if (hsh p62.2 (hgR p62.2 448 x0 0)).1 = 11 then if wix (0 : Int32) (hsh p62.2 (hgR p62.2 448 x0 0)).2 then if wix (8606 : Int32) (hsh p62.2 (hgR p62.2 448 x0 0)).2 then (if (0 : Int32) ≤ v65 then ((f_X9_cookie (hsL p62.2 1035 (hgR p62.2 448 x0 0) (8606 : Int32).toNatClampNeg (hgL p62.2 1035 (hgR p62.2 448 x0 0) (0 : Int32).toNatClampNeg)) v65).bind fun v72 => if (hsh (hsL p62.2 1035 (hgR p62.2 448 x0 0) (8606 : Int32).toNatClampNeg (hgL p62.2 1035 (hgR p62.2 448 x0 0) (0 : Int32).toNatClampNeg)) (hgR (hsL p62.2 1035 (hgR p62.2 448 x0 0) (8606 : Int32).toNatClampNeg (hgL p62.2 1035 (hgR p62.2 448 x0 0) (0 : Int32).toNatClampNeg)) 448 x0 0)).1 = 11 then if wix (v72 + (5 : Int32)) (hsh (hsL p62.2 1035 (hgR p62.2 448 x0 0) (8606 : Int32).toNatClampNeg (hgL p62.2 1035 (hgR p62.2 448 x0 0) (0 : Int32).toNatClampNeg)) (hgR (hsL p62.2 1035 (hgR p62.2 448 x0 0) (8606 : Int32).toNatClampNeg (hgL p62.2 1035 (hgR p62.2 448 x0 0) (0 : Int32).toNatClampNeg)) 448 x0 0)).2 then k_X9_receive_150 (hsL p62.2 1035 (hgR p62.2 448 x0 0) (8606 : Int32).toNatClampNeg (hgL p62.2 1035 (hgR p62.2 448 x0 0) (0 : Int32).toNatClampNeg)) x0 v65 (hgR (hsL p62.2 1035 (hgR p62.2 448 x0 0) (8606 : Int32).toNatClampNeg (hgL p62.2 1035 (hgR p62.2 448 x0 0) (0 : Int32).toNatClampNeg)) 448 x0 0) (8605 : Int32) (hgL (hsL p62.2 1035 (hgR p62.2 448 x0 0) (8606 : Int32).toNatClampNeg (hgL p62.2 1035 (hgR p62.2 448 x0 0) (0 : Int32).toNatClampNeg)) 1035 (hgR (hsL p62.2 1035 (hgR p62.2 448 x0 0) (8606 : Int32).toNatClampNeg (hgL p62.2 1035 (hgR p62.2 448 x0 0) (0 : Int32).toNatClampNeg)) 448 x0 0) (v72 + (5 : Int32)).toNatClampNeg) else none else none) else if (hsh (hsL p62.2 1035 (hgR p62.2 448 x0 0) (8606 : Int32).toNatClampNeg (hgL p62.2 1035 (hgR p62.2 448 x0 0) (0 : Int32).toNatClampNeg)) (hgR (hsL p62.2 1035 (hgR p62.2 448 x0 0) (8606 : Int32).toNatClampNeg (hgL p62.2 1035 (hgR p62.2 448 x0 0) (0 : Int32).toNatClampNeg)) 448 x0 0)).1 = 11 then if wix (0 : Int32) (hsh (hsL p62.2 1035 (hgR p62.2 448 x0 0) (8606 : Int32).toNatClampNeg (hgL p62.2 1035 (hgR p62.2 448 x0 0) (0 : Int32).toNatClampNeg)) (hgR (hsL p62.2 1035 (hgR p62.2 448 x0 0) (8606 : Int32).toNatClampNeg (hgL p62.2 1035 (hgR p62.2 448 x0 0) (0 : Int32).toNatClampNeg)) 448 x0 0)).2 then k_X9_receive_150 (hsL p62.2 1035 (hgR p62.2 448 x0 0) (8606 : Int32).toNatClampNeg (hgL p62.2 1035 (hgR p62.2 448 x0 0) (0 : Int32).toNatClampNeg)) x0 v65 (hgR (hsL p62.2 1035 (hgR p62.2 448 x0 0) (8606 : Int32).toNatClampNeg (hgL p62.2 1035 (hgR p62.2 448 x0 0) (0 : Int32).toNatClampNeg)) 448 x0 0) (8605 : Int32) (hgL (hsL p62.2 1035 (hgR p62.2 448 x0 0) (8606 : Int32).toNatClampNeg (hgL p62.2 1035 (hgR p62.2 448 x0 0) (0 : Int32).toNatClampNeg)) 1035 (hgR (hsL p62.2 1035 (hgR p62.2 448 x0 0) (8606 : Int32).toNatClampNeg (hgL p62.2 1035 (hgR p62.2 448 x0 0) (0 : Int32).toNatClampNeg)) 448 x0 0) (0 : Int32).toNatClampNeg) else none else none) else none else none else none else (if (0 : Int32) ≤ v65 then ((f_X9_goes p62.2 x0 v65).bind fun A79 => if (hsh A79 x0).1 = 8 then ((f_X9_happens A79 x0 (2 : Int32) (3 : Int32)).bind fun p82 => some (p82.1, p82.2)) else none) else ((f_X9_happens p62.2 x0 (6 : Int32) (0 : Int32)).bind fun p84 => some (p84.1, p84.2))))) else none) else ((f_X9_happens (hsI (hsL A54 1035 (hgR A54 448 x0 0) (7 : Int32).toNatClampNeg v57.toInt64) 451 x0 0 (0 : Int32)) x0 (5 : Int32) (0 : Int32)).bind fun p86 => some (p86.1, p86.2))) else none else none) else none) else none)) else none else none else none
set_option maxRecDepth 100000 in
theorem s_X9_receive {l : Launch} {g : GT} (hl : l.stackTraces = false) {A : Hp} {x0 : Nat} {x1 : Int32} {r : Int32} {B : Hp} (h : f_X9_receive A x0 x1 = some (r, B)) : MetV l g yX9_receive (.code yX9_receive cX9_receive 5 (some .int)) [.inr (.inr x0), .inl x1] A (.inl (some (.inl r))) B 8 196 0 0 := by
  refine MetV.ofV hl (by decide +kernel) (Nat.le_of_ble_eq_true rfl) (fun κ K E => ?_)
  have K : Cx κ cX9_receive 5 RX9 8 196 0 0 := K
  have E : Ed κ (some .int) "receive" (.inl (some (.inl r))) B 0 0 := E
  unfold f_X9_receive at h
  change Vw κ A 0 0 0 [(0, .inr (.inr x0)), (1, .inl x1)] []
  refine Vw.aload_n (pc := 0) (x := x0) K dX9_receive_0 rfl ?_
  refine Vw.iconst (pc := 1) (v := (0 : Int32)) K (by decide) dX9_receive_1 ?_
  obtain ⟨g46, h⟩ := wgd h
  refine Vw.putI (pc := 2) (k := 4) (f := 452) K cls7 rfl rfl u_6_21 g46 (Or.inl rfl) rfl rfl dX9_receive_2 ?_
  refine Vw.aload_n (pc := 5) (x := x0) K dX9_receive_5 rfl ?_
  refine Vw.getR (pc := 6) (k := 0) (f := 448) K cls7 rfl rfl u_6_17 g46 dX9_receive_6 ?_
  refine Vw.bipush (pc := 9) (v := (100 : Int32)) K (by decide) dX9_receive_9 ?_
  obtain ⟨g47, h⟩ := wgd h
  obtain ⟨g48, h⟩ := wgd h
  refine Vw.laload (pc := 11) K g47 g48 dX9_receive_11 ?_
  refine Vw.lconst (pc := 12) (v := (0 : Int64)) K (by decide) dX9_receive_12 ?_
  refine Vw.lcmp_ne (pc := 13) (tgt := 23) K dX9_receive_13 dX9_receive_14 (by decide) (fun c49 => ?_) (fun c49 => ?_)
  · have h := wneg c49 h
    refine Vw.aload_n (pc := 23) (x := x0) K dX9_receive_23 rfl ?_
    obtain ⟨A51, e50, h⟩ := wbd h
    refine Vw.cV0 (pc := 24) (c' := 0) (n' := 0) K (s_X9_readsCookie K.tr e50) cal_X9_readsCookie cls7 u_7_6 g46 rfl ⟨by decide, by decide⟩ ⟨by decide, by decide⟩ rfl (Nat.le_of_ble_eq_true rfl) dX9_receive_24 rfl rfl ?_
    refine Vw.aload_n (pc := 27) (x := x0) K dX9_receive_27 rfl ?_
    obtain ⟨g52, h⟩ := wgd h
    obtain ⟨A54, e53, h⟩ := wbd h
    refine Vw.cV0 (pc := 28) (c' := 0) (n' := 0) K (s_X9_fillsCookie K.tr e53) cal_X9_fillsCookie cls7 u_7_86 g52 rfl ⟨by decide, by decide⟩ ⟨by decide, by decide⟩ rfl (Nat.le_of_ble_eq_true rfl) dX9_receive_28 rfl rfl ?_
    refine Vw.aload_n (pc := 31) (x := x0) K dX9_receive_31 rfl ?_
    refine Vw.iload_n (pc := 32) (x := x1) K dX9_receive_32 rfl ?_
    obtain ⟨g55, h⟩ := wgd h
    obtain ⟨v57, e56, h⟩ := wbd h
    refine Vw.cV1 (pc := 33) (v := .inl v57) (c' := 0) (n' := 0) K (s_X9_cause K.tr e56) cal_X9_cause cls7 u_7_94 g55 rfl ⟨by decide, by decide⟩ ⟨by decide, by decide⟩ rfl (Nat.le_of_ble_eq_true rfl) dX9_receive_33 rfl rfl ?_
    refine Vw.istore_n (pc := 36) K dX9_receive_36 (by decide) ?_
    refine Vw.aload_n (pc := 37) (x := x0) K dX9_receive_37 rfl ?_
    refine Vw.getR (pc := 38) (k := 0) (f := 448) K cls7 rfl rfl u_6_17 g55 dX9_receive_38 ?_
    refine Vw.bipush (pc := 41) (v := (7 : Int32)) K (by decide) dX9_receive_41 ?_
    refine Vw.iload_n (pc := 43) (x := v57) K dX9_receive_43 rfl ?_
    refine Vw.i2l (pc := 44) K dX9_receive_44 ?_
    obtain ⟨g58, h⟩ := wgd h
    obtain ⟨g59, h⟩ := wgd h
    refine Vw.lastore (pc := 45) K g58 g59 dX9_receive_45 ?_
    refine Vw.aload_n (pc := 46) (x := x0) K dX9_receive_46 rfl ?_
    refine Vw.iconst (pc := 47) (v := (0 : Int32)) K (by decide) dX9_receive_47 ?_
    refine Vw.putI (pc := 48) (k := 3) (f := 451) K cls7 rfl rfl u_6_20 g55 (Or.inl rfl) rfl rfl dX9_receive_48 ?_
    refine Vw.iload_n (pc := 51) (x := v57) K dX9_receive_51 rfl ?_
    refine Vw.if_eq (pc := 52) (tgt := 62) K dX9_receive_52 (by decide) (fun c60 => ?_) (fun c60 => ?_)
    · have h := wpos c60 h
      refine Vw.aload_n (pc := 62) (x := x0) K dX9_receive_62 rfl ?_
      obtain ⟨p62, e61, h⟩ := wbd h
      refine Vw.cV1 (pc := 63) (v := .inl p62.1) (c' := 0) (n' := 0) K (s_X9_expires K.tr e61) cal_X9_expires cls7 u_7_129 g55 rfl ⟨by decide, by decide⟩ ⟨by decide, by decide⟩ rfl (Nat.le_of_ble_eq_true rfl) dX9_receive_63 rfl rfl ?_
      refine Vw.istore_n (pc := 66) K dX9_receive_66 (by decide) ?_
      refine Vw.aload_n (pc := 67) (x := x0) K dX9_receive_67 rfl ?_
      obtain ⟨g63, h⟩ := wgd h
      obtain ⟨v65, e64, h⟩ := wbd h
      refine Vw.cV1 (pc := 68) (v := .inl v65) (c' := 0) (n' := 0) K (s_X9_elder K.tr e64) cal_X9_elder cls7 u_7_117 g63 rfl ⟨by decide, by decide⟩ ⟨by decide, by decide⟩ rfl (Nat.le_of_ble_eq_true rfl) dX9_receive_68 rfl rfl ?_
      refine Vw.istore (pc := 71) K dX9_receive_71 (by decide) ?_
      refine Vw.iload_n (pc := 73) (x := p62.1) K dX9_receive_73 rfl ?_
      refine Vw.if_eq (pc := 74) (tgt := 103) K dX9_receive_74 (by decide) (fun c66 => ?_) (fun c66 => ?_)
      · have h := wpos c66 h
        refine Vw.aload_n (pc := 103) (x := x0) K dX9_receive_103 rfl ?_
        refine Vw.getR (pc := 104) (k := 0) (f := 448) K cls7 rfl rfl u_6_17 g63 dX9_receive_104 ?_
        refine Vw.sipush (pc := 107) (v := (8606 : Int32)) K (by decide) dX9_receive_107 ?_
        refine Vw.aload_n (pc := 110) (x := x0) K dX9_receive_110 rfl ?_
        refine Vw.getR (pc := 111) (k := 0) (f := 448) K cls7 rfl rfl u_6_17 g63 dX9_receive_111 ?_
        refine Vw.iconst (pc := 114) (v := (0 : Int32)) K (by decide) dX9_receive_114 ?_
        obtain ⟨g67, h⟩ := wgd h
        obtain ⟨g68, h⟩ := wgd h
        refine Vw.laload (pc := 115) K g67 g68 dX9_receive_115 ?_
        obtain ⟨g69, h⟩ := wgd h
        refine Vw.lastore (pc := 116) K g67 g69 dX9_receive_116 ?_
        refine Vw.aload_n (pc := 117) (x := x0) K dX9_receive_117 rfl ?_
        refine Vw.getR (pc := 118) (k := 0) (f := 448) K cls7 rfl rfl u_6_17 g63 dX9_receive_118 ?_
        refine Vw.sipush (pc := 121) (v := (8605 : Int32)) K (by decide) dX9_receive_121 ?_
        refine Vw.iload (pc := 124) (x := v65) K dX9_receive_124 rfl ?_
        refine Vw.if_ge (pc := 126) (tgt := 138) K dX9_receive_126 (by decide) (fun c70 => ?_) (fun c70 => ?_)
        · have h := wpos c70 h
          refine Vw.aload_n (pc := 138) (x := x0) K dX9_receive_138 rfl ?_
          refine Vw.getR (pc := 139) (k := 0) (f := 448) K cls7 rfl rfl u_6_17 g63 dX9_receive_139 ?_
          refine Vw.iload (pc := 142) (x := v65) K dX9_receive_142 rfl ?_
          obtain ⟨v72, e71, h⟩ := wbd h
          refine Vw.cS1 (pc := 144) (v := .inl v72) (c' := 0) (n' := 0) K (s_X9_cookie K.tr e71) cal_X9_cookie u_7_102 rfl ⟨by decide, by decide⟩ ⟨by decide, by decide⟩ rfl (Nat.le_of_ble_eq_true rfl) dX9_receive_144 rfl rfl ?_
          refine Vw.iconst (pc := 147) (v := (5 : Int32)) K (by decide) dX9_receive_147 ?_
          refine Vw.iadd (pc := 148) K dX9_receive_148 ?_
          obtain ⟨g73, h⟩ := wgd h
          obtain ⟨g74, h⟩ := wgd h
          refine Vw.laload (pc := 149) K g73 g74 dX9_receive_149 ?_
          exact Vw.loc rfl (s_X9_receive_150 K E  h)
        · have h := wneg c70 h
          refine Vw.aload_n (pc := 129) (x := x0) K dX9_receive_129 rfl ?_
          refine Vw.getR (pc := 130) (k := 0) (f := 448) K cls7 rfl rfl u_6_17 g63 dX9_receive_130 ?_
          refine Vw.iconst (pc := 133) (v := (0 : Int32)) K (by decide) dX9_receive_133 ?_
          obtain ⟨g75, h⟩ := wgd h
          obtain ⟨g76, h⟩ := wgd h
          refine Vw.laload (pc := 134) K g75 g76 dX9_receive_134 ?_
          refine Vw.goto (pc := 135) (tgt := 150) K dX9_receive_135 (by decide) ?_
          exact Vw.loc rfl (s_X9_receive_150 K E  h)
      · have h := wneg c66 h
        refine Vw.iload (pc := 77) (x := v65) K dX9_receive_77 rfl ?_
        refine Vw.if_ge (pc := 79) (tgt := 90) K dX9_receive_79 (by decide) (fun c77 => ?_) (fun c77 => ?_)
        · have h := wpos c77 h
          refine Vw.aload_n (pc := 90) (x := x0) K dX9_receive_90 rfl ?_
          refine Vw.iload (pc := 91) (x := v65) K dX9_receive_91 rfl ?_
          obtain ⟨A79, e78, h⟩ := wbd h
          refine Vw.cV0 (pc := 93) (c' := 0) (n' := 0) K (s_X9_goes K.tr e78) cal_X9_goes cls7 u_7_134 g63 rfl ⟨by decide, by decide⟩ ⟨by decide, by decide⟩ rfl (Nat.le_of_ble_eq_true rfl) dX9_receive_93 rfl rfl ?_
          refine Vw.aload_n (pc := 96) (x := x0) K dX9_receive_96 rfl ?_
          refine Vw.iconst (pc := 97) (v := (2 : Int32)) K (by decide) dX9_receive_97 ?_
          refine Vw.iconst (pc := 98) (v := (3 : Int32)) K (by decide) dX9_receive_98 ?_
          obtain ⟨g80, h⟩ := wgd h
          obtain ⟨p82, e81, h⟩ := wbd h
          refine Vw.cV1 (pc := 99) (v := .inl p82.1) (c' := 0) (n' := 0) K (s_X9_happens K.tr e81) cal_X9_happens cls7 u_7_125 g80 rfl ⟨by decide, by decide⟩ ⟨by decide, by decide⟩ rfl (Nat.le_of_ble_eq_true rfl) dX9_receive_99 rfl rfl ?_
          exact Vw.iretH (pc := 102) K h E (by decide) (by decide) dX9_receive_102
        · have h := wneg c77 h
          refine Vw.aload_n (pc := 82) (x := x0) K dX9_receive_82 rfl ?_
          refine Vw.bipush (pc := 83) (v := (6 : Int32)) K (by decide) dX9_receive_83 ?_
          refine Vw.iconst (pc := 85) (v := (0 : Int32)) K (by decide) dX9_receive_85 ?_
          obtain ⟨p84, e83, h⟩ := wbd h
          refine Vw.cV1 (pc := 86) (v := .inl p84.1) (c' := 0) (n' := 0) K (s_X9_happens K.tr e83) cal_X9_happens cls7 u_7_125 g63 rfl ⟨by decide, by decide⟩ ⟨by decide, by decide⟩ rfl (Nat.le_of_ble_eq_true rfl) dX9_receive_86 rfl rfl ?_
          exact Vw.iretH (pc := 89) K h E (by decide) (by decide) dX9_receive_89
    · have h := wneg c60 h
      refine Vw.aload_n (pc := 55) (x := x0) K dX9_receive_55 rfl ?_
      refine Vw.iconst (pc := 56) (v := (5 : Int32)) K (by decide) dX9_receive_56 ?_
      refine Vw.iconst (pc := 57) (v := (0 : Int32)) K (by decide) dX9_receive_57 ?_
      obtain ⟨p86, e85, h⟩ := wbd h
      refine Vw.cV1 (pc := 58) (v := .inl p86.1) (c' := 0) (n' := 0) K (s_X9_happens K.tr e85) cal_X9_happens cls7 u_7_125 g55 rfl ⟨by decide, by decide⟩ ⟨by decide, by decide⟩ rfl (Nat.le_of_ble_eq_true rfl) dX9_receive_58 rfl rfl ?_
      exact Vw.iretH (pc := 61) K h E (by decide) (by decide) dX9_receive_61
  · have h := wpos c49 h
    refine Vw.aload_n (pc := 17) (x := x0) K dX9_receive_17 rfl ?_
    refine Vw.iconst (pc := 18) (v := (1 : Int32)) K (by decide) dX9_receive_18 ?_
    obtain ⟨p88, e87, h⟩ := wbd h
    refine Vw.cV1 (pc := 19) (v := .inl p88.1) (c' := 0) (n' := 0) K (s_X9_fails K.tr e87) cal_X9_fails cls7 u_6_214 g46 rfl ⟨by decide, by decide⟩ ⟨by decide, by decide⟩ rfl (Nat.le_of_ble_eq_true rfl) dX9_receive_19 rfl rfl ?_
    exact Vw.iretH (pc := 22) K h E (by decide) (by decide) dX9_receive_22
theorem cal_X9_receive : wCalV RX9 yX9_receive (.code yX9_receive cX9_receive 5 (some .int)) 1 := ⟨by decide +kernel, u_7_3, u_7_4, u_1_9, u_7_5⟩
def k_X9_rejection_46  (A : Hp)  (t0 : Int64) : Option (Int32 × Hp) := some (t0.toInt32, A)
set_option maxRecDepth 100000 in
theorem s_X9_rejection_46 {κ : KT} {r : Int32} {B : Hp} {A : Hp}  {t0 : Int64}  (K : Cx κ cX9_rejection 2 RX9 1 25 0 0) (E : Ed κ (some .int) "rejection" (.inl (some (.inl r))) B 0 0)  (h : k_X9_rejection_46  A  t0 = some (r, B)) : Vw κ A 0 0 46 [] [.inr (.inl t0)] := by
  unfold k_X9_rejection_46 at h
  refine Vw.l2i (pc := 46) K dX9_rejection_46 ?_
  exact Vw.iretH (pc := 47) K h E (by decide) (by decide) dX9_rejection_47
def f_X9_rejection (A : Hp) (x0 : Nat) (x1 : Int32) : Option (Int32 × Hp) := if (hsh A x0).1 = 8 then ((f_X9_in (hsI A 452 x0 0 (0 : Int32)) x1.toInt64 (0 : Int64) (1 : Int64)).bind fun v3 => (if v3 = (0 : Int32) then ((f_X9_fails (hsI A 452 x0 0 (0 : Int32)) x0 (1 : Int32)).bind fun p11 => some (p11.1, p11.2)) else (if x1 = (0 : Int32) then if (hsh (hsI A 452 x0 0 (0 : Int32)) (hgR (hsI A 452 x0 0 (0 : Int32)) 448 x0 0)).1 = 11 then if wix (7 : Int32) (hsh (hsI A 452 x0 0 (0 : Int32)) (hgR (hsI A 452 x0 0 (0 : Int32)) 448 x0 0)).2 then k_X9_rejection_46 (hsI A 452 x0 0 (0 : Int32)) ((hgL (hsI A 452 x0 0 (0 : Int32)) 1035 (hgR (hsI A 452 x0 0 (0 : Int32)) 448 x0 0) (7 : Int32).toNatClampNeg) / (10 : Int64)) else none else none else if (hsh (hsI A 452 x0 0 (0 : Int32)) (hgR (hsI A 452 x0 0 (0 : Int32)) 448 x0 0)).1 = 11 then if wix (7 : Int32) (hsh (hsI A 452 x0 0 (0 : Int32)) (hgR (hsI A 452 x0 0 (0 : Int32)) 448 x0 0)).2 then k_X9_rejection_46 (hsI A 452 x0 0 (0 : Int32)) (hgL (hsI A 452 x0 0 (0 : Int32)) 1035 (hgR (hsI A 452 x0 0 (0 : Int32)) 448 x0 0) (7 : Int32).toNatClampNeg) else none else none))) else none
set_option maxRecDepth 100000 in
theorem s_X9_rejection {l : Launch} {g : GT} (hl : l.stackTraces = false) {A : Hp} {x0 : Nat} {x1 : Int32} {r : Int32} {B : Hp} (h : f_X9_rejection A x0 x1 = some (r, B)) : MetV l g yX9_rejection (.code yX9_rejection cX9_rejection 2 (some .int)) [.inr (.inr x0), .inl x1] A (.inl (some (.inl r))) B 1 25 0 0 := by
  refine MetV.ofV hl (by decide +kernel) (Nat.le_of_ble_eq_true rfl) (fun κ K E => ?_)
  have K : Cx κ cX9_rejection 2 RX9 1 25 0 0 := K
  have E : Ed κ (some .int) "rejection" (.inl (some (.inl r))) B 0 0 := E
  unfold f_X9_rejection at h
  change Vw κ A 0 0 0 [(0, .inr (.inr x0)), (1, .inl x1)] []
  refine Vw.aload_n (pc := 0) (x := x0) K dX9_rejection_0 rfl ?_
  refine Vw.iconst (pc := 1) (v := (0 : Int32)) K (by decide) dX9_rejection_1 ?_
  obtain ⟨g1, h⟩ := wgd h
  refine Vw.putI (pc := 2) (k := 4) (f := 452) K cls7 rfl rfl u_6_21 g1 (Or.inl rfl) rfl rfl dX9_rejection_2 ?_
  refine Vw.iload_n (pc := 5) (x := x1) K dX9_rejection_5 rfl ?_
  refine Vw.i2l (pc := 6) K dX9_rejection_6 ?_
  refine Vw.lconst (pc := 7) (v := (0 : Int64)) K (by decide) dX9_rejection_7 ?_
  refine Vw.lconst (pc := 8) (v := (1 : Int64)) K (by decide) dX9_rejection_8 ?_
  obtain ⟨v3, e2, h⟩ := wbd h
  refine Vw.cS1 (pc := 9) (v := .inl v3) (c' := 0) (n' := 0) K (s_X9_in K.tr e2) cal_X9_in u_6_161 rfl ⟨by decide, by decide⟩ ⟨by decide, by decide⟩ rfl (Nat.le_of_ble_eq_true rfl) dX9_rejection_9 rfl rfl ?_
  refine Vw.if_ne (pc := 12) (tgt := 21) K dX9_rejection_12 (by decide) (fun c4 => ?_) (fun c4 => ?_)
  · have h := wneg c4 h
    refine Vw.iload_n (pc := 21) (x := x1) K dX9_rejection_21 rfl ?_
    refine Vw.if_ne (pc := 22) (tgt := 39) K dX9_rejection_22 (by decide) (fun c5 => ?_) (fun c5 => ?_)
    · have h := wneg c5 h
      refine Vw.aload_n (pc := 39) (x := x0) K dX9_rejection_39 rfl ?_
      refine Vw.getR (pc := 40) (k := 0) (f := 448) K cls7 rfl rfl u_6_17 g1 dX9_rejection_40 ?_
      refine Vw.bipush (pc := 43) (v := (7 : Int32)) K (by decide) dX9_rejection_43 ?_
      obtain ⟨g6, h⟩ := wgd h
      obtain ⟨g7, h⟩ := wgd h
      refine Vw.laload (pc := 45) K g6 g7 dX9_rejection_45 ?_
      exact Vw.loc rfl (s_X9_rejection_46 K E  h)
    · have h := wpos c5 h
      refine Vw.aload_n (pc := 25) (x := x0) K dX9_rejection_25 rfl ?_
      refine Vw.getR (pc := 26) (k := 0) (f := 448) K cls7 rfl rfl u_6_17 g1 dX9_rejection_26 ?_
      refine Vw.bipush (pc := 29) (v := (7 : Int32)) K (by decide) dX9_rejection_29 ?_
      obtain ⟨g8, h⟩ := wgd h
      obtain ⟨g9, h⟩ := wgd h
      refine Vw.laload (pc := 31) K g8 g9 dX9_rejection_31 ?_
      refine Vw.ldc2 (pc := 32) (v := (10 : Int64)) K u_7_45 dX9_rejection_32 ?_
      refine Vw.ldiv (pc := 35) K (by decide) dX9_rejection_35 ?_
      refine Vw.goto (pc := 36) (tgt := 46) K dX9_rejection_36 (by decide) ?_
      exact Vw.loc rfl (s_X9_rejection_46 K E  h)
  · have h := wpos c4 h
    refine Vw.aload_n (pc := 15) (x := x0) K dX9_rejection_15 rfl ?_
    refine Vw.iconst (pc := 16) (v := (1 : Int32)) K (by decide) dX9_rejection_16 ?_
    obtain ⟨p11, e10, h⟩ := wbd h
    refine Vw.cV1 (pc := 17) (v := .inl p11.1) (c' := 0) (n' := 0) K (s_X9_fails K.tr e10) cal_X9_fails cls7 u_6_214 g1 rfl ⟨by decide, by decide⟩ ⟨by decide, by decide⟩ rfl (Nat.le_of_ble_eq_true rfl) dX9_rejection_17 rfl rfl ?_
    exact Vw.iretH (pc := 20) K h E (by decide) (by decide) dX9_rejection_20
theorem cal_X9_rejection : wCalV RX9 yX9_rejection (.code yX9_rejection cX9_rejection 2 (some .int)) 1 := ⟨by decide +kernel, u_7_168, u_7_169, u_1_9, u_7_170⟩
def k_X9_isSent_175  (A : Hp) (x0 : Nat) (x1 : Int32) (x6 : Int32) (x7 : Int32) (x8 : Int32) (t0 : Int32) : Option (Int32) := (if x6 = (0 : Int32) then some (0 : Int32) else (if x7 = (0 : Int32) then some (0 : Int32) else (if x8 = (0 : Int32) then some (0 : Int32) else (if t0 = (0 : Int32) then some (0 : Int32) else if (hsh A x0).1 = 8 then if (hsh A (hgR A 448 x0 0)).1 = 11 then if wix (103 : Int32) (hsh A (hgR A 448 x0 0)).2 then if wix (x1 + (3 : Int32)) (hsh A (hgR A 448 x0 0)).2 then ((f_X9_pathMatches A x0 (134 : Int32) ((hgL A 1035 (hgR A 448 x0 0) (103 : Int32).toNatClampNeg).toInt32) (x1 + (92 : Int32)) ((hgL A 1035 (hgR A 448 x0 0) (x1 + (3 : Int32)).toNatClampNeg).toInt32)).bind fun v10 => (if v10 = (0 : Int32) then some (0 : Int32) else some (1 : Int32))) else none else none else none else none))))
set_option maxRecDepth 100000 in
theorem s_X9_isSent_175 {κ : KT} {r : Int32} {A : Hp} {x0 : Nat} {x1 : Int32} {x6 : Int32} {x7 : Int32} {x8 : Int32} {t0 : Int32}  (K : Cx κ cX9_isSent 10 RX9 6 146 0 0) (E : Ed κ (some .boolean) "isSent" (.inl (some (.inl r))) A 0 0)  (h : k_X9_isSent_175  A x0 x1 x6 x7 x8 t0 = some r) : Vw κ A 0 0 175 [(0, .inr (.inr x0)), (1, .inl x1), (6, .inl x6), (7, .inl x7), (8, .inl x8)] [.inl t0] := by
  unfold k_X9_isSent_175 at h
  refine Vw.istore (pc := 175) K dX9_isSent_175 (by decide) ?_
  refine Vw.iload (pc := 177) (x := x6) K dX9_isSent_177 rfl ?_
  refine Vw.if_eq (pc := 179) (tgt := 232) K dX9_isSent_179 (by decide) (fun c1 => ?_) (fun c1 => ?_)
  · have h := wpos c1 h
    refine Vw.iconst (pc := 232) (v := (0 : Int32)) K (by decide) dX9_isSent_232 ?_
    exact Vw.zretE (pc := 233) K (Or.inl rfl) (Option.some.inj h) rfl E (by decide) (by decide) dX9_isSent_233
  · have h := wneg c1 h
    refine Vw.iload (pc := 182) (x := x7) K dX9_isSent_182 rfl ?_
    refine Vw.if_eq (pc := 184) (tgt := 232) K dX9_isSent_184 (by decide) (fun c2 => ?_) (fun c2 => ?_)
    · have h := wpos c2 h
      refine Vw.iconst (pc := 232) (v := (0 : Int32)) K (by decide) dX9_isSent_232 ?_
      exact Vw.zretE (pc := 233) K (Or.inl rfl) (Option.some.inj h) rfl E (by decide) (by decide) dX9_isSent_233
    · have h := wneg c2 h
      refine Vw.iload (pc := 187) (x := x8) K dX9_isSent_187 rfl ?_
      refine Vw.if_eq (pc := 189) (tgt := 232) K dX9_isSent_189 (by decide) (fun c3 => ?_) (fun c3 => ?_)
      · have h := wpos c3 h
        refine Vw.iconst (pc := 232) (v := (0 : Int32)) K (by decide) dX9_isSent_232 ?_
        exact Vw.zretE (pc := 233) K (Or.inl rfl) (Option.some.inj h) rfl E (by decide) (by decide) dX9_isSent_233
      · have h := wneg c3 h
        refine Vw.iload (pc := 192) (x := t0) K dX9_isSent_192 rfl ?_
        refine Vw.if_eq (pc := 194) (tgt := 232) K dX9_isSent_194 (by decide) (fun c4 => ?_) (fun c4 => ?_)
        · have h := wpos c4 h
          refine Vw.iconst (pc := 232) (v := (0 : Int32)) K (by decide) dX9_isSent_232 ?_
          exact Vw.zretE (pc := 233) K (Or.inl rfl) (Option.some.inj h) rfl E (by decide) (by decide) dX9_isSent_233
        · have h := wneg c4 h
          refine Vw.aload_n (pc := 197) (x := x0) K dX9_isSent_197 rfl ?_
          refine Vw.sipush (pc := 198) (v := (134 : Int32)) K (by decide) dX9_isSent_198 ?_
          refine Vw.aload_n (pc := 201) (x := x0) K dX9_isSent_201 rfl ?_
          obtain ⟨g5, h⟩ := wgd h
          refine Vw.getR (pc := 202) (k := 0) (f := 448) K cls7 rfl rfl u_6_17 g5 dX9_isSent_202 ?_
          refine Vw.bipush (pc := 205) (v := (103 : Int32)) K (by decide) dX9_isSent_205 ?_
          obtain ⟨g6, h⟩ := wgd h
          obtain ⟨g7, h⟩ := wgd h
          refine Vw.laload (pc := 207) K g6 g7 dX9_isSent_207 ?_
          refine Vw.l2i (pc := 208) K dX9_isSent_208 ?_
          refine Vw.iload_n (pc := 209) (x := x1) K dX9_isSent_209 rfl ?_
          refine Vw.bipush (pc := 210) (v := (92 : Int32)) K (by decide) dX9_isSent_210 ?_
          refine Vw.iadd (pc := 212) K dX9_isSent_212 ?_
          refine Vw.aload_n (pc := 213) (x := x0) K dX9_isSent_213 rfl ?_
          refine Vw.getR (pc := 214) (k := 0) (f := 448) K cls7 rfl rfl u_6_17 g5 dX9_isSent_214 ?_
          refine Vw.iload_n (pc := 217) (x := x1) K dX9_isSent_217 rfl ?_
          refine Vw.iconst (pc := 218) (v := (3 : Int32)) K (by decide) dX9_isSent_218 ?_
          refine Vw.iadd (pc := 219) K dX9_isSent_219 ?_
          obtain ⟨g8, h⟩ := wgd h
          refine Vw.laload (pc := 220) K g6 g8 dX9_isSent_220 ?_
          refine Vw.l2i (pc := 221) K dX9_isSent_221 ?_
          obtain ⟨v10, e9, h⟩ := wbd h
          refine Vw.cV1 (pc := 222) (v := .inl v10) (c' := 0) (n' := 0) K (s_X9_pathMatches K.tr e9) cal_X9_pathMatches cls7 u_7_109 g5 rfl ⟨by decide, by decide⟩ ⟨by decide, by decide⟩ rfl (Nat.le_of_ble_eq_true rfl) dX9_isSent_222 rfl rfl ?_
          refine Vw.if_eq (pc := 225) (tgt := 232) K dX9_isSent_225 (by decide) (fun c11 => ?_) (fun c11 => ?_)
          · have h := wpos c11 h
            refine Vw.iconst (pc := 232) (v := (0 : Int32)) K (by decide) dX9_isSent_232 ?_
            exact Vw.zretE (pc := 233) K (Or.inl rfl) (Option.some.inj h) rfl E (by decide) (by decide) dX9_isSent_233
          · have h := wneg c11 h
            refine Vw.iconst (pc := 228) (v := (1 : Int32)) K (by decide) dX9_isSent_228 ?_
            refine Vw.goto (pc := 229) (tgt := 233) K dX9_isSent_229 (by decide) ?_
            exact Vw.zretE (pc := 233) K (Or.inr rfl) (Option.some.inj h) rfl E (by decide) (by decide) dX9_isSent_233
def k_X9_isSent_170  (A : Hp) (x0 : Nat) (x1 : Int32) (x6 : Int32) (x7 : Int32) (x8 : Int32)  : Option (Int32) := k_X9_isSent_175 A x0 x1 x6 x7 x8 (1 : Int32)
set_option maxRecDepth 100000 in
theorem s_X9_isSent_170 {κ : KT} {r : Int32} {A : Hp} {x0 : Nat} {x1 : Int32} {x6 : Int32} {x7 : Int32} {x8 : Int32}   (K : Cx κ cX9_isSent 10 RX9 6 146 0 0) (E : Ed κ (some .boolean) "isSent" (.inl (some (.inl r))) A 0 0)  (h : k_X9_isSent_170  A x0 x1 x6 x7 x8  = some r) : Vw κ A 0 0 170 [(0, .inr (.inr x0)), (1, .inl x1), (6, .inl x6), (7, .inl x7), (8, .inl x8)] [] := by
  unfold k_X9_isSent_170 at h
  refine Vw.iconst (pc := 170) (v := (1 : Int32)) K (by decide) dX9_isSent_170 ?_
  refine Vw.goto (pc := 171) (tgt := 175) K dX9_isSent_171 (by decide) ?_
  exact Vw.loc rfl (s_X9_isSent_175 K E  h)
def k_X9_isSent_174  (A : Hp) (x0 : Nat) (x1 : Int32) (x6 : Int32) (x7 : Int32) (x8 : Int32)  : Option (Int32) := k_X9_isSent_175 A x0 x1 x6 x7 x8 (0 : Int32)
set_option maxRecDepth 100000 in
theorem s_X9_isSent_174 {κ : KT} {r : Int32} {A : Hp} {x0 : Nat} {x1 : Int32} {x6 : Int32} {x7 : Int32} {x8 : Int32}   (K : Cx κ cX9_isSent 10 RX9 6 146 0 0) (E : Ed κ (some .boolean) "isSent" (.inl (some (.inl r))) A 0 0)  (h : k_X9_isSent_174  A x0 x1 x6 x7 x8  = some r) : Vw κ A 0 0 174 [(0, .inr (.inr x0)), (1, .inl x1), (6, .inl x6), (7, .inl x7), (8, .inl x8)] [] := by
  unfold k_X9_isSent_174 at h
  refine Vw.iconst (pc := 174) (v := (0 : Int32)) K (by decide) dX9_isSent_174 ?_
  exact Vw.loc rfl (s_X9_isSent_175 K E  h)
def k_X9_isSent_129  (A : Hp) (x0 : Nat) (x1 : Int32) (x2 : Int32) (x6 : Int32) (x7 : Int32) (t0 : Int32) : Option (Int32) := if (hsh A x0).1 = 8 then if (hsh A (hgR A 448 x0 0)).1 = 11 then if wix (x1 + (11 : Int32)) (hsh A (hgR A 448 x0 0)).2 then (if (hgL A 1035 (hgR A 448 x0 0) (x1 + (11 : Int32)).toNatClampNeg) = (0 : Int64) then k_X9_isSent_170 A x0 x1 x6 x7 t0 else ((f_X9_isOneSite A x0).bind fun v17 => (if v17 = (0 : Int32) then (if (hgL A 1035 (hgR A 448 x0 0) (x1 + (11 : Int32)).toNatClampNeg) = (1 : Int64) then (if x2 = (0 : Int32) then k_X9_isSent_174 A x0 x1 x6 x7 t0 else k_X9_isSent_170 A x0 x1 x6 x7 t0) else k_X9_isSent_174 A x0 x1 x6 x7 t0) else k_X9_isSent_170 A x0 x1 x6 x7 t0))) else none else none else none
set_option maxRecDepth 100000 in
theorem s_X9_isSent_129 {κ : KT} {r : Int32} {A : Hp} {x0 : Nat} {x1 : Int32} {x2 : Int32} {x6 : Int32} {x7 : Int32} {t0 : Int32}  (K : Cx κ cX9_isSent 10 RX9 6 146 0 0) (E : Ed κ (some .boolean) "isSent" (.inl (some (.inl r))) A 0 0)  (h : k_X9_isSent_129  A x0 x1 x2 x6 x7 t0 = some r) : Vw κ A 0 0 129 [(0, .inr (.inr x0)), (1, .inl x1), (2, .inl x2), (6, .inl x6), (7, .inl x7)] [.inl t0] := by
  unfold k_X9_isSent_129 at h
  refine Vw.istore (pc := 129) K dX9_isSent_129 (by decide) ?_
  refine Vw.aload_n (pc := 131) (x := x0) K dX9_isSent_131 rfl ?_
  obtain ⟨g12, h⟩ := wgd h
  refine Vw.getR (pc := 132) (k := 0) (f := 448) K cls7 rfl rfl u_6_17 g12 dX9_isSent_132 ?_
  refine Vw.iload_n (pc := 135) (x := x1) K dX9_isSent_135 rfl ?_
  refine Vw.bipush (pc := 136) (v := (11 : Int32)) K (by decide) dX9_isSent_136 ?_
  refine Vw.iadd (pc := 138) K dX9_isSent_138 ?_
  obtain ⟨g13, h⟩ := wgd h
  obtain ⟨g14, h⟩ := wgd h
  refine Vw.laload (pc := 139) K g13 g14 dX9_isSent_139 ?_
  refine Vw.lconst (pc := 140) (v := (0 : Int64)) K (by decide) dX9_isSent_140 ?_
  refine Vw.lcmp_eq (pc := 141) (tgt := 170) K dX9_isSent_141 dX9_isSent_142 (by decide) (fun c15 => ?_) (fun c15 => ?_)
  · have h := wpos c15 h
    exact Vw.loc rfl (s_X9_isSent_170 K E  h)
  · have h := wneg c15 h
    refine Vw.aload_n (pc := 145) (x := x0) K dX9_isSent_145 rfl ?_
    obtain ⟨v17, e16, h⟩ := wbd h
    refine Vw.cV1 (pc := 146) (v := .inl v17) (c' := 0) (n' := 0) K (s_X9_isOneSite K.tr e16) cal_X9_isOneSite cls7 u_6_182 g12 rfl ⟨by decide, by decide⟩ ⟨by decide, by decide⟩ rfl (Nat.le_of_ble_eq_true rfl) dX9_isSent_146 rfl rfl ?_
    refine Vw.if_ne (pc := 149) (tgt := 170) K dX9_isSent_149 (by decide) (fun c18 => ?_) (fun c18 => ?_)
    · have h := wneg c18 h
      exact Vw.loc rfl (s_X9_isSent_170 K E  h)
    · have h := wpos c18 h
      refine Vw.aload_n (pc := 152) (x := x0) K dX9_isSent_152 rfl ?_
      refine Vw.getR (pc := 153) (k := 0) (f := 448) K cls7 rfl rfl u_6_17 g12 dX9_isSent_153 ?_
      refine Vw.iload_n (pc := 156) (x := x1) K dX9_isSent_156 rfl ?_
      refine Vw.bipush (pc := 157) (v := (11 : Int32)) K (by decide) dX9_isSent_157 ?_
      refine Vw.iadd (pc := 159) K dX9_isSent_159 ?_
      refine Vw.laload (pc := 160) K g13 g14 dX9_isSent_160 ?_
      refine Vw.lconst (pc := 161) (v := (1 : Int64)) K (by decide) dX9_isSent_161 ?_
      refine Vw.lcmp_ne (pc := 162) (tgt := 174) K dX9_isSent_162 dX9_isSent_163 (by decide) (fun c19 => ?_) (fun c19 => ?_)
      · have h := wneg c19 h
        exact Vw.loc rfl (s_X9_isSent_174 K E  h)
      · have h := wpos c19 h
        refine Vw.iload_n (pc := 166) (x := x2) K dX9_isSent_166 rfl ?_
        refine Vw.if_eq (pc := 167) (tgt := 174) K dX9_isSent_167 (by decide) (fun c20 => ?_) (fun c20 => ?_)
        · have h := wpos c20 h
          exact Vw.loc rfl (s_X9_isSent_174 K E  h)
        · have h := wneg c20 h
          exact Vw.loc rfl (s_X9_isSent_170 K E  h)
def k_X9_isSent_124  (A : Hp) (x0 : Nat) (x1 : Int32) (x2 : Int32) (x6 : Int32) (x7 : Int32)  : Option (Int32) := k_X9_isSent_129 A x0 x1 x2 x6 x7 (1 : Int32)
set_option maxRecDepth 100000 in
theorem s_X9_isSent_124 {κ : KT} {r : Int32} {A : Hp} {x0 : Nat} {x1 : Int32} {x2 : Int32} {x6 : Int32} {x7 : Int32}   (K : Cx κ cX9_isSent 10 RX9 6 146 0 0) (E : Ed κ (some .boolean) "isSent" (.inl (some (.inl r))) A 0 0)  (h : k_X9_isSent_124  A x0 x1 x2 x6 x7  = some r) : Vw κ A 0 0 124 [(0, .inr (.inr x0)), (1, .inl x1), (2, .inl x2), (6, .inl x6), (7, .inl x7)] [] := by
  unfold k_X9_isSent_124 at h
  refine Vw.iconst (pc := 124) (v := (1 : Int32)) K (by decide) dX9_isSent_124 ?_
  refine Vw.goto (pc := 125) (tgt := 129) K dX9_isSent_125 (by decide) ?_
  exact Vw.loc rfl (s_X9_isSent_129 K E  h)
def k_X9_isSent_104  (A : Hp) (x0 : Nat) (x1 : Int32) (x2 : Int32) (x3 : Int32) (x6 : Int32) (t0 : Int32) : Option (Int32) := if (hsh A x0).1 = 8 then if (hsh A (hgR A 448 x0 0)).1 = 11 then if wix (x1 + (10 : Int32)) (hsh A (hgR A 448 x0 0)).2 then (if (hgL A 1035 (hgR A 448 x0 0) (x1 + (10 : Int32)).toNatClampNeg) = (0 : Int64) then k_X9_isSent_124 A x0 x1 x2 x6 t0 else (if x3 = (0 : Int32) then k_X9_isSent_124 A x0 x1 x2 x6 t0 else k_X9_isSent_129 A x0 x1 x2 x6 t0 (0 : Int32))) else none else none else none
set_option maxRecDepth 100000 in
theorem s_X9_isSent_104 {κ : KT} {r : Int32} {A : Hp} {x0 : Nat} {x1 : Int32} {x2 : Int32} {x3 : Int32} {x6 : Int32} {t0 : Int32}  (K : Cx κ cX9_isSent 10 RX9 6 146 0 0) (E : Ed κ (some .boolean) "isSent" (.inl (some (.inl r))) A 0 0)  (h : k_X9_isSent_104  A x0 x1 x2 x3 x6 t0 = some r) : Vw κ A 0 0 104 [(0, .inr (.inr x0)), (1, .inl x1), (2, .inl x2), (3, .inl x3), (6, .inl x6)] [.inl t0] := by
  unfold k_X9_isSent_104 at h
  refine Vw.istore (pc := 104) K dX9_isSent_104 (by decide) ?_
  refine Vw.aload_n (pc := 106) (x := x0) K dX9_isSent_106 rfl ?_
  obtain ⟨g21, h⟩ := wgd h
  refine Vw.getR (pc := 107) (k := 0) (f := 448) K cls7 rfl rfl u_6_17 g21 dX9_isSent_107 ?_
  refine Vw.iload_n (pc := 110) (x := x1) K dX9_isSent_110 rfl ?_
  refine Vw.bipush (pc := 111) (v := (10 : Int32)) K (by decide) dX9_isSent_111 ?_
  refine Vw.iadd (pc := 113) K dX9_isSent_113 ?_
  obtain ⟨g22, h⟩ := wgd h
  obtain ⟨g23, h⟩ := wgd h
  refine Vw.laload (pc := 114) K g22 g23 dX9_isSent_114 ?_
  refine Vw.lconst (pc := 115) (v := (0 : Int64)) K (by decide) dX9_isSent_115 ?_
  refine Vw.lcmp_eq (pc := 116) (tgt := 124) K dX9_isSent_116 dX9_isSent_117 (by decide) (fun c24 => ?_) (fun c24 => ?_)
  · have h := wpos c24 h
    exact Vw.loc rfl (s_X9_isSent_124 K E  h)
  · have h := wneg c24 h
    refine Vw.iload_n (pc := 120) (x := x3) K dX9_isSent_120 rfl ?_
    refine Vw.if_ne (pc := 121) (tgt := 128) K dX9_isSent_121 (by decide) (fun c25 => ?_) (fun c25 => ?_)
    · have h := wneg c25 h
      refine Vw.iconst (pc := 128) (v := (0 : Int32)) K (by decide) dX9_isSent_128 ?_
      exact Vw.loc rfl (s_X9_isSent_129 K E  h)
    · have h := wpos c25 h
      exact Vw.loc rfl (s_X9_isSent_124 K E  h)
def k_X9_isSent_99  (A : Hp) (x0 : Nat) (x1 : Int32) (x2 : Int32) (x3 : Int32) (x6 : Int32)  : Option (Int32) := k_X9_isSent_104 A x0 x1 x2 x3 x6 (1 : Int32)
set_option maxRecDepth 100000 in
theorem s_X9_isSent_99 {κ : KT} {r : Int32} {A : Hp} {x0 : Nat} {x1 : Int32} {x2 : Int32} {x3 : Int32} {x6 : Int32}   (K : Cx κ cX9_isSent 10 RX9 6 146 0 0) (E : Ed κ (some .boolean) "isSent" (.inl (some (.inl r))) A 0 0)  (h : k_X9_isSent_99  A x0 x1 x2 x3 x6  = some r) : Vw κ A 0 0 99 [(0, .inr (.inr x0)), (1, .inl x1), (2, .inl x2), (3, .inl x3), (6, .inl x6)] [] := by
  unfold k_X9_isSent_99 at h
  refine Vw.iconst (pc := 99) (v := (1 : Int32)) K (by decide) dX9_isSent_99 ?_
  refine Vw.goto (pc := 100) (tgt := 104) K dX9_isSent_100 (by decide) ?_
  exact Vw.loc rfl (s_X9_isSent_104 K E  h)
def k_X9_isSent_71  (A : Hp) (x0 : Nat) (x1 : Int32) (x2 : Int32) (x3 : Int32) (t0 : Int32) : Option (Int32) := if (hsh A x0).1 = 8 then if (hsh A (hgR A 448 x0 0)).1 = 11 then if wix (x1 + (9 : Int32)) (hsh A (hgR A 448 x0 0)).2 then (if (hgL A 1035 (hgR A 448 x0 0) (x1 + (9 : Int32)).toNatClampNeg) = (0 : Int64) then k_X9_isSent_99 A x0 x1 x2 x3 t0 else if wix (101 : Int32) (hsh A (hgR A 448 x0 0)).2 then (if (hgL A 1035 (hgR A 448 x0 0) (101 : Int32).toNatClampNeg) = (1 : Int64) then k_X9_isSent_99 A x0 x1 x2 x3 t0 else k_X9_isSent_104 A x0 x1 x2 x3 t0 (0 : Int32)) else none) else none else none else none
set_option maxRecDepth 100000 in
theorem s_X9_isSent_71 {κ : KT} {r : Int32} {A : Hp} {x0 : Nat} {x1 : Int32} {x2 : Int32} {x3 : Int32} {t0 : Int32}  (K : Cx κ cX9_isSent 10 RX9 6 146 0 0) (E : Ed κ (some .boolean) "isSent" (.inl (some (.inl r))) A 0 0)  (h : k_X9_isSent_71  A x0 x1 x2 x3 t0 = some r) : Vw κ A 0 0 71 [(0, .inr (.inr x0)), (1, .inl x1), (2, .inl x2), (3, .inl x3)] [.inl t0] := by
  unfold k_X9_isSent_71 at h
  refine Vw.istore (pc := 71) K dX9_isSent_71 (by decide) ?_
  refine Vw.aload_n (pc := 73) (x := x0) K dX9_isSent_73 rfl ?_
  obtain ⟨g26, h⟩ := wgd h
  refine Vw.getR (pc := 74) (k := 0) (f := 448) K cls7 rfl rfl u_6_17 g26 dX9_isSent_74 ?_
  refine Vw.iload_n (pc := 77) (x := x1) K dX9_isSent_77 rfl ?_
  refine Vw.bipush (pc := 78) (v := (9 : Int32)) K (by decide) dX9_isSent_78 ?_
  refine Vw.iadd (pc := 80) K dX9_isSent_80 ?_
  obtain ⟨g27, h⟩ := wgd h
  obtain ⟨g28, h⟩ := wgd h
  refine Vw.laload (pc := 81) K g27 g28 dX9_isSent_81 ?_
  refine Vw.lconst (pc := 82) (v := (0 : Int64)) K (by decide) dX9_isSent_82 ?_
  refine Vw.lcmp_eq (pc := 83) (tgt := 99) K dX9_isSent_83 dX9_isSent_84 (by decide) (fun c29 => ?_) (fun c29 => ?_)
  · have h := wpos c29 h
    exact Vw.loc rfl (s_X9_isSent_99 K E  h)
  · have h := wneg c29 h
    refine Vw.aload_n (pc := 87) (x := x0) K dX9_isSent_87 rfl ?_
    refine Vw.getR (pc := 88) (k := 0) (f := 448) K cls7 rfl rfl u_6_17 g26 dX9_isSent_88 ?_
    refine Vw.bipush (pc := 91) (v := (101 : Int32)) K (by decide) dX9_isSent_91 ?_
    obtain ⟨g30, h⟩ := wgd h
    refine Vw.laload (pc := 93) K g27 g30 dX9_isSent_93 ?_
    refine Vw.lconst (pc := 94) (v := (1 : Int64)) K (by decide) dX9_isSent_94 ?_
    refine Vw.lcmp_ne (pc := 95) (tgt := 103) K dX9_isSent_95 dX9_isSent_96 (by decide) (fun c31 => ?_) (fun c31 => ?_)
    · have h := wneg c31 h
      refine Vw.iconst (pc := 103) (v := (0 : Int32)) K (by decide) dX9_isSent_103 ?_
      exact Vw.loc rfl (s_X9_isSent_104 K E  h)
    · have h := wpos c31 h
      exact Vw.loc rfl (s_X9_isSent_99 K E  h)
def f_X9_isSent (A : Hp) (x0 : Nat) (x1 : Int32) (x2 : Int32) (x3 : Int32) : Option (Int32) := if (hsh A x0).1 = 8 then ((f_X9_hostLong A x0).bind fun v34 => if (hsh A (hgR A 448 x0 0)).1 = 11 then if wix (x1 + (2 : Int32)) (hsh A (hgR A 448 x0 0)).2 then ((f_X9_areLike A x0 (104 : Int32) v34 (x1 + (62 : Int32)) ((hgL A 1035 (hgR A 448 x0 0) (x1 + (2 : Int32)).toNatClampNeg).toInt32)).bind fun v38 => if wix (x1 + (8 : Int32)) (hsh A (hgR A 448 x0 0)).2 then (if (hgL A 1035 (hgR A 448 x0 0) (x1 + (8 : Int32)).toNatClampNeg) = (1 : Int64) then k_X9_isSent_71 A x0 x1 x2 x3 v38 else ((f_X9_hostLong A x0).bind fun v42 => ((f_X9_matches A x0 (104 : Int32) v42 (x1 + (62 : Int32)) ((hgL A 1035 (hgR A 448 x0 0) (x1 + (2 : Int32)).toNatClampNeg).toInt32)).bind fun v44 => k_X9_isSent_71 A x0 x1 x2 x3 v44))) else none) else none else none) else none
set_option maxRecDepth 100000 in
theorem s_X9_isSent {l : Launch} {g : GT} (hl : l.stackTraces = false) {A : Hp} {x0 : Nat} {x1 : Int32} {x2 : Int32} {x3 : Int32} {r : Int32} (h : f_X9_isSent A x0 x1 x2 x3 = some r) : MetV l g yX9_isSent (.code yX9_isSent cX9_isSent 10 (some .boolean)) [.inr (.inr x0), .inl x1, .inl x2, .inl x3] A (.inl (some (.inl r))) A 6 146 0 0 := by
  refine MetV.ofV hl (by decide +kernel) (Nat.le_of_ble_eq_true rfl) (fun κ K E => ?_)
  have K : Cx κ cX9_isSent 10 RX9 6 146 0 0 := K
  have E : Ed κ (some .boolean) "isSent" (.inl (some (.inl r))) A 0 0 := E
  unfold f_X9_isSent at h
  change Vw κ A 0 0 0 [(0, .inr (.inr x0)), (1, .inl x1), (2, .inl x2), (3, .inl x3)] []
  refine Vw.bipush (pc := 0) (v := (104 : Int32)) K (by decide) dX9_isSent_0 ?_
  refine Vw.istore (pc := 2) K dX9_isSent_2 (by decide) ?_
  refine Vw.aload_n (pc := 4) (x := x0) K dX9_isSent_4 rfl ?_
  refine Vw.iload (pc := 5) (x := (104 : Int32)) K dX9_isSent_5 rfl ?_
  refine Vw.aload_n (pc := 7) (x := x0) K dX9_isSent_7 rfl ?_
  obtain ⟨g32, h⟩ := wgd h
  obtain ⟨v34, e33, h⟩ := wbd h
  refine Vw.cV1 (pc := 8) (v := .inl v34) (c' := 0) (n' := 0) K (s_X9_hostLong K.tr e33) cal_X9_hostLong cls7 u_6_218 g32 rfl ⟨by decide, by decide⟩ ⟨by decide, by decide⟩ rfl (Nat.le_of_ble_eq_true rfl) dX9_isSent_8 rfl rfl ?_
  refine Vw.iload_n (pc := 11) (x := x1) K dX9_isSent_11 rfl ?_
  refine Vw.bipush (pc := 12) (v := (62 : Int32)) K (by decide) dX9_isSent_12 ?_
  refine Vw.iadd (pc := 14) K dX9_isSent_14 ?_
  refine Vw.aload_n (pc := 15) (x := x0) K dX9_isSent_15 rfl ?_
  refine Vw.getR (pc := 16) (k := 0) (f := 448) K cls7 rfl rfl u_6_17 g32 dX9_isSent_16 ?_
  refine Vw.iload_n (pc := 19) (x := x1) K dX9_isSent_19 rfl ?_
  refine Vw.iconst (pc := 20) (v := (2 : Int32)) K (by decide) dX9_isSent_20 ?_
  refine Vw.iadd (pc := 21) K dX9_isSent_21 ?_
  obtain ⟨g35, h⟩ := wgd h
  obtain ⟨g36, h⟩ := wgd h
  refine Vw.laload (pc := 22) K g35 g36 dX9_isSent_22 ?_
  refine Vw.l2i (pc := 23) K dX9_isSent_23 ?_
  obtain ⟨v38, e37, h⟩ := wbd h
  refine Vw.cV1 (pc := 24) (v := .inl v38) (c' := 0) (n' := 0) K (s_X9_areLike K.tr e37) cal_X9_areLike cls7 u_6_202 g32 rfl ⟨by decide, by decide⟩ ⟨by decide, by decide⟩ rfl (Nat.le_of_ble_eq_true rfl) dX9_isSent_24 rfl rfl ?_
  refine Vw.istore (pc := 27) K dX9_isSent_27 (by decide) ?_
  refine Vw.aload_n (pc := 29) (x := x0) K dX9_isSent_29 rfl ?_
  refine Vw.getR (pc := 30) (k := 0) (f := 448) K cls7 rfl rfl u_6_17 g32 dX9_isSent_30 ?_
  refine Vw.iload_n (pc := 33) (x := x1) K dX9_isSent_33 rfl ?_
  refine Vw.bipush (pc := 34) (v := (8 : Int32)) K (by decide) dX9_isSent_34 ?_
  refine Vw.iadd (pc := 36) K dX9_isSent_36 ?_
  obtain ⟨g39, h⟩ := wgd h
  refine Vw.laload (pc := 37) K g35 g39 dX9_isSent_37 ?_
  refine Vw.lconst (pc := 38) (v := (1 : Int64)) K (by decide) dX9_isSent_38 ?_
  refine Vw.lcmp_ne (pc := 39) (tgt := 48) K dX9_isSent_39 dX9_isSent_40 (by decide) (fun c40 => ?_) (fun c40 => ?_)
  · have h := wneg c40 h
    refine Vw.aload_n (pc := 48) (x := x0) K dX9_isSent_48 rfl ?_
    refine Vw.iload (pc := 49) (x := (104 : Int32)) K dX9_isSent_49 rfl ?_
    refine Vw.aload_n (pc := 51) (x := x0) K dX9_isSent_51 rfl ?_
    obtain ⟨v42, e41, h⟩ := wbd h
    refine Vw.cV1 (pc := 52) (v := .inl v42) (c' := 0) (n' := 0) K (s_X9_hostLong K.tr e41) cal_X9_hostLong cls7 u_6_218 g32 rfl ⟨by decide, by decide⟩ ⟨by decide, by decide⟩ rfl (Nat.le_of_ble_eq_true rfl) dX9_isSent_52 rfl rfl ?_
    refine Vw.iload_n (pc := 55) (x := x1) K dX9_isSent_55 rfl ?_
    refine Vw.bipush (pc := 56) (v := (62 : Int32)) K (by decide) dX9_isSent_56 ?_
    refine Vw.iadd (pc := 58) K dX9_isSent_58 ?_
    refine Vw.aload_n (pc := 59) (x := x0) K dX9_isSent_59 rfl ?_
    refine Vw.getR (pc := 60) (k := 0) (f := 448) K cls7 rfl rfl u_6_17 g32 dX9_isSent_60 ?_
    refine Vw.iload_n (pc := 63) (x := x1) K dX9_isSent_63 rfl ?_
    refine Vw.iconst (pc := 64) (v := (2 : Int32)) K (by decide) dX9_isSent_64 ?_
    refine Vw.iadd (pc := 65) K dX9_isSent_65 ?_
    refine Vw.laload (pc := 66) K g35 g36 dX9_isSent_66 ?_
    refine Vw.l2i (pc := 67) K dX9_isSent_67 ?_
    obtain ⟨v44, e43, h⟩ := wbd h
    refine Vw.cV1 (pc := 68) (v := .inl v44) (c' := 0) (n' := 0) K (s_X9_matches K.tr e43) cal_X9_matches cls7 u_6_198 g32 rfl ⟨by decide, by decide⟩ ⟨by decide, by decide⟩ rfl (Nat.le_of_ble_eq_true rfl) dX9_isSent_68 rfl rfl ?_
    exact Vw.loc rfl (s_X9_isSent_71 K E  h)
  · have h := wpos c40 h
    refine Vw.iload (pc := 43) (x := v38) K dX9_isSent_43 rfl ?_
    refine Vw.goto (pc := 45) (tgt := 71) K dX9_isSent_45 (by decide) ?_
    exact Vw.loc rfl (s_X9_isSent_71 K E  h)
theorem cal_X9_isSent : wCalV RX9 yX9_isSent (.code yX9_isSent cX9_isSent 10 (some .boolean)) 3 := ⟨by decide +kernel, u_7_181, us_6_2, u_1_9, u_7_182⟩
def k_X9_isSentAhead_62  (A : Hp)   : Option (Int32) := some (1 : Int32)
set_option maxRecDepth 100000 in
theorem s_X9_isSentAhead_62 {κ : KT} {r : Int32} {A : Hp}    (K : Cx κ cX9_isSentAhead 3 RX9 0 0 0 0) (E : Ed κ (some .boolean) "isSentAhead" (.inl (some (.inl r))) A 0 0)  (h : k_X9_isSentAhead_62  A   = some r) : Vw κ A 0 0 62 [] [] := by
  unfold k_X9_isSentAhead_62 at h
  refine Vw.iconst (pc := 62) (v := (1 : Int32)) K (by decide) dX9_isSentAhead_62 ?_
  refine Vw.goto (pc := 63) (tgt := 67) K dX9_isSentAhead_63 (by decide) ?_
  exact Vw.zretE (pc := 67) K (Or.inr rfl) (Option.some.inj h) rfl E (by decide) (by decide) dX9_isSentAhead_67
def f_X9_isSentAhead (A : Hp) (x0 : Nat) (x1 : Int32) (x2 : Int32) : Option (Int32) := if (hsh A x0).1 = 8 then if (hsh A (hgR A 448 x0 0)).1 = 11 then if wix (x1 + (3 : Int32)) (hsh A (hgR A 448 x0 0)).2 then if wix (x2 + (3 : Int32)) (hsh A (hgR A 448 x0 0)).2 then (if (hgL A 1035 (hgR A 448 x0 0) (x2 + (3 : Int32)).toNatClampNeg) < (hgL A 1035 (hgR A 448 x0 0) (x1 + (3 : Int32)).toNatClampNeg) then k_X9_isSentAhead_62 A else (if (hgL A 1035 (hgR A 448 x0 0) (x1 + (3 : Int32)).toNatClampNeg) = (hgL A 1035 (hgR A 448 x0 0) (x2 + (3 : Int32)).toNatClampNeg) then if wix (x1 + (7 : Int32)) (hsh A (hgR A 448 x0 0)).2 then if wix (x2 + (7 : Int32)) (hsh A (hgR A 448 x0 0)).2 then (if (hgL A 1035 (hgR A 448 x0 0) (x2 + (7 : Int32)).toNatClampNeg) ≤ (hgL A 1035 (hgR A 448 x0 0) (x1 + (7 : Int32)).toNatClampNeg) then some (0 : Int32) else k_X9_isSentAhead_62 A) else none else none else some (0 : Int32))) else none else none else none else none
set_option maxRecDepth 100000 in
theorem s_X9_isSentAhead {l : Launch} {g : GT} (hl : l.stackTraces = false) {A : Hp} {x0 : Nat} {x1 : Int32} {x2 : Int32} {r : Int32} (h : f_X9_isSentAhead A x0 x1 x2 = some r) : MetV l g yX9_isSentAhead (.code yX9_isSentAhead cX9_isSentAhead 3 (some .boolean)) [.inr (.inr x0), .inl x1, .inl x2] A (.inl (some (.inl r))) A 0 0 0 0 := by
  refine MetV.ofV hl (by decide +kernel) (Nat.le_of_ble_eq_true rfl) (fun κ K E => ?_)
  have K : Cx κ cX9_isSentAhead 3 RX9 0 0 0 0 := K
  have E : Ed κ (some .boolean) "isSentAhead" (.inl (some (.inl r))) A 0 0 := E
  unfold f_X9_isSentAhead at h
  change Vw κ A 0 0 0 [(0, .inr (.inr x0)), (1, .inl x1), (2, .inl x2)] []
  refine Vw.aload_n (pc := 0) (x := x0) K dX9_isSentAhead_0 rfl ?_
  obtain ⟨g1, h⟩ := wgd h
  refine Vw.getR (pc := 1) (k := 0) (f := 448) K cls7 rfl rfl u_6_17 g1 dX9_isSentAhead_1 ?_
  refine Vw.iload_n (pc := 4) (x := x1) K dX9_isSentAhead_4 rfl ?_
  refine Vw.iconst (pc := 5) (v := (3 : Int32)) K (by decide) dX9_isSentAhead_5 ?_
  refine Vw.iadd (pc := 6) K dX9_isSentAhead_6 ?_
  obtain ⟨g2, h⟩ := wgd h
  obtain ⟨g3, h⟩ := wgd h
  refine Vw.laload (pc := 7) K g2 g3 dX9_isSentAhead_7 ?_
  refine Vw.aload_n (pc := 8) (x := x0) K dX9_isSentAhead_8 rfl ?_
  refine Vw.getR (pc := 9) (k := 0) (f := 448) K cls7 rfl rfl u_6_17 g1 dX9_isSentAhead_9 ?_
  refine Vw.iload_n (pc := 12) (x := x2) K dX9_isSentAhead_12 rfl ?_
  refine Vw.iconst (pc := 13) (v := (3 : Int32)) K (by decide) dX9_isSentAhead_13 ?_
  refine Vw.iadd (pc := 14) K dX9_isSentAhead_14 ?_
  obtain ⟨g4, h⟩ := wgd h
  refine Vw.laload (pc := 15) K g2 g4 dX9_isSentAhead_15 ?_
  refine Vw.lcmp_gt (pc := 16) (tgt := 62) K dX9_isSentAhead_16 dX9_isSentAhead_17 (by decide) (fun c5 => ?_) (fun c5 => ?_)
  · have h := wpos c5 h
    exact Vw.loc rfl (s_X9_isSentAhead_62 K E  h)
  · have h := wneg c5 h
    refine Vw.aload_n (pc := 20) (x := x0) K dX9_isSentAhead_20 rfl ?_
    refine Vw.getR (pc := 21) (k := 0) (f := 448) K cls7 rfl rfl u_6_17 g1 dX9_isSentAhead_21 ?_
    refine Vw.iload_n (pc := 24) (x := x1) K dX9_isSentAhead_24 rfl ?_
    refine Vw.iconst (pc := 25) (v := (3 : Int32)) K (by decide) dX9_isSentAhead_25 ?_
    refine Vw.iadd (pc := 26) K dX9_isSentAhead_26 ?_
    refine Vw.laload (pc := 27) K g2 g3 dX9_isSentAhead_27 ?_
    refine Vw.aload_n (pc := 28) (x := x0) K dX9_isSentAhead_28 rfl ?_
    refine Vw.getR (pc := 29) (k := 0) (f := 448) K cls7 rfl rfl u_6_17 g1 dX9_isSentAhead_29 ?_
    refine Vw.iload_n (pc := 32) (x := x2) K dX9_isSentAhead_32 rfl ?_
    refine Vw.iconst (pc := 33) (v := (3 : Int32)) K (by decide) dX9_isSentAhead_33 ?_
    refine Vw.iadd (pc := 34) K dX9_isSentAhead_34 ?_
    refine Vw.laload (pc := 35) K g2 g4 dX9_isSentAhead_35 ?_
    refine Vw.lcmp_ne (pc := 36) (tgt := 66) K dX9_isSentAhead_36 dX9_isSentAhead_37 (by decide) (fun c6 => ?_) (fun c6 => ?_)
    · have h := wneg c6 h
      refine Vw.iconst (pc := 66) (v := (0 : Int32)) K (by decide) dX9_isSentAhead_66 ?_
      exact Vw.zretE (pc := 67) K (Or.inl rfl) (Option.some.inj h) rfl E (by decide) (by decide) dX9_isSentAhead_67
    · have h := wpos c6 h
      refine Vw.aload_n (pc := 40) (x := x0) K dX9_isSentAhead_40 rfl ?_
      refine Vw.getR (pc := 41) (k := 0) (f := 448) K cls7 rfl rfl u_6_17 g1 dX9_isSentAhead_41 ?_
      refine Vw.iload_n (pc := 44) (x := x1) K dX9_isSentAhead_44 rfl ?_
      refine Vw.bipush (pc := 45) (v := (7 : Int32)) K (by decide) dX9_isSentAhead_45 ?_
      refine Vw.iadd (pc := 47) K dX9_isSentAhead_47 ?_
      obtain ⟨g7, h⟩ := wgd h
      refine Vw.laload (pc := 48) K g2 g7 dX9_isSentAhead_48 ?_
      refine Vw.aload_n (pc := 49) (x := x0) K dX9_isSentAhead_49 rfl ?_
      refine Vw.getR (pc := 50) (k := 0) (f := 448) K cls7 rfl rfl u_6_17 g1 dX9_isSentAhead_50 ?_
      refine Vw.iload_n (pc := 53) (x := x2) K dX9_isSentAhead_53 rfl ?_
      refine Vw.bipush (pc := 54) (v := (7 : Int32)) K (by decide) dX9_isSentAhead_54 ?_
      refine Vw.iadd (pc := 56) K dX9_isSentAhead_56 ?_
      obtain ⟨g8, h⟩ := wgd h
      refine Vw.laload (pc := 57) K g2 g8 dX9_isSentAhead_57 ?_
      refine Vw.lcmp_ge (pc := 58) (tgt := 66) K dX9_isSentAhead_58 dX9_isSentAhead_59 (by decide) (fun c9 => ?_) (fun c9 => ?_)
      · have h := wpos c9 h
        refine Vw.iconst (pc := 66) (v := (0 : Int32)) K (by decide) dX9_isSentAhead_66 ?_
        exact Vw.zretE (pc := 67) K (Or.inl rfl) (Option.some.inj h) rfl E (by decide) (by decide) dX9_isSentAhead_67
      · have h := wneg c9 h
        exact Vw.loc rfl (s_X9_isSentAhead_62 K E  h)
theorem cal_X9_isSentAhead : wCalV RX9 yX9_isSentAhead (.code yX9_isSentAhead cX9_isSentAhead 3 (some .boolean)) 2 := ⟨by decide +kernel, u_7_185, us_6_3, u_1_9, u_7_186⟩
def k_X9_sentBehind_94 (rec6 : Int32 → Int32 → Option (Int32)) (A : Hp) (x0 : Nat) (x1 : Int32) (x2 : Int32) (x3 : Int32) (x5 : Int32) (t0 : Int32) : Option (Int32) := rec6 t0 (x5 + (1 : Int32))
set_option maxRecDepth 100000 in
theorem s_X9_sentBehind_94 {κ : KT} {r : Int32} {A : Hp} {x0 : Nat} {x1 : Int32} {x2 : Int32} {x3 : Int32} {x5 : Int32} {t0 : Int32} {rec6 : Int32 → Int32 → Option (Int32)} (K : Cx κ cX9_sentBehind 7 RX9 7 175 0 0) (E : Ed κ (some .int) "sentBehind" (.inl (some (.inl r))) A 0 0) (hr6 : ∀ (x4 : Int32) (x5 : Int32), rec6 x4 x5 = some r → Vw κ A 0 0 6 [(0, .inr (.inr x0)), (1, .inl x1), (2, .inl x2), (3, .inl x3), (4, .inl x4), (5, .inl x5)] []) (h : k_X9_sentBehind_94 rec6 A x0 x1 x2 x3 x5 t0 = some r) : Vw κ A 0 0 94 [(0, .inr (.inr x0)), (1, .inl x1), (2, .inl x2), (3, .inl x3), (5, .inl x5)] [.inl t0] := by
  unfold k_X9_sentBehind_94 at h
  refine Vw.istore (pc := 94) K dX9_sentBehind_94 (by decide) ?_
  refine Vw.iinc (pc := 96) (x := x5) (v := (1 : Int32)) K dX9_sentBehind_96 rfl (by decide) (by decide) ?_
  refine Vw.goto (pc := 99) (tgt := 6) K dX9_sentBehind_99 (by decide) ?_
  exact Vw.loc rfl (hr6 _ _ h)
def k_X9_sentBehind_92 (rec6 : Int32 → Int32 → Option (Int32)) (A : Hp) (x0 : Nat) (x1 : Int32) (x2 : Int32) (x3 : Int32) (x4 : Int32) (x5 : Int32)  : Option (Int32) := k_X9_sentBehind_94 rec6 A x0 x1 x2 x3 x5 x4
set_option maxRecDepth 100000 in
theorem s_X9_sentBehind_92 {κ : KT} {r : Int32} {A : Hp} {x0 : Nat} {x1 : Int32} {x2 : Int32} {x3 : Int32} {x4 : Int32} {x5 : Int32}  {rec6 : Int32 → Int32 → Option (Int32)} (K : Cx κ cX9_sentBehind 7 RX9 7 175 0 0) (E : Ed κ (some .int) "sentBehind" (.inl (some (.inl r))) A 0 0) (hr6 : ∀ (x4 : Int32) (x5 : Int32), rec6 x4 x5 = some r → Vw κ A 0 0 6 [(0, .inr (.inr x0)), (1, .inl x1), (2, .inl x2), (3, .inl x3), (4, .inl x4), (5, .inl x5)] []) (h : k_X9_sentBehind_92 rec6 A x0 x1 x2 x3 x4 x5  = some r) : Vw κ A 0 0 92 [(0, .inr (.inr x0)), (1, .inl x1), (2, .inl x2), (3, .inl x3), (4, .inl x4), (5, .inl x5)] [] := by
  unfold k_X9_sentBehind_92 at h
  refine Vw.iload (pc := 92) (x := x4) K dX9_sentBehind_92 rfl ?_
  exact Vw.loc rfl (s_X9_sentBehind_94 K E hr6 h)
def k_X9_sentBehind_87 (rec6 : Int32 → Int32 → Option (Int32)) (A : Hp) (x0 : Nat) (x1 : Int32) (x2 : Int32) (x3 : Int32) (x5 : Int32)  : Option (Int32) := k_X9_sentBehind_94 rec6 A x0 x1 x2 x3 x5 x5
set_option maxRecDepth 100000 in
theorem s_X9_sentBehind_87 {κ : KT} {r : Int32} {A : Hp} {x0 : Nat} {x1 : Int32} {x2 : Int32} {x3 : Int32} {x5 : Int32}  {rec6 : Int32 → Int32 → Option (Int32)} (K : Cx κ cX9_sentBehind 7 RX9 7 175 0 0) (E : Ed κ (some .int) "sentBehind" (.inl (some (.inl r))) A 0 0) (hr6 : ∀ (x4 : Int32) (x5 : Int32), rec6 x4 x5 = some r → Vw κ A 0 0 6 [(0, .inr (.inr x0)), (1, .inl x1), (2, .inl x2), (3, .inl x3), (4, .inl x4), (5, .inl x5)] []) (h : k_X9_sentBehind_87 rec6 A x0 x1 x2 x3 x5  = some r) : Vw κ A 0 0 87 [(0, .inr (.inr x0)), (1, .inl x1), (2, .inl x2), (3, .inl x3), (5, .inl x5)] [] := by
  unfold k_X9_sentBehind_87 at h
  refine Vw.iload (pc := 87) (x := x5) K dX9_sentBehind_87 rfl ?_
  refine Vw.goto (pc := 89) (tgt := 94) K dX9_sentBehind_89 (by decide) ?_
  exact Vw.loc rfl (s_X9_sentBehind_94 K E hr6 h)
def k_X9_sentBehind_58 (rec6 : Int32 → Int32 → Option (Int32)) (A : Hp) (x0 : Nat) (x1 : Int32) (x2 : Int32) (x3 : Int32) (x4 : Int32) (x5 : Int32) (t0 : Int32) : Option (Int32) := (if t0 = (0 : Int32) then k_X9_sentBehind_92 rec6 A x0 x1 x2 x3 x4 x5 else (if x4 < (0 : Int32) then k_X9_sentBehind_87 rec6 A x0 x1 x2 x3 x5 else ((f_X9_cookie A x5).bind fun v4 => ((f_X9_cookie A x4).bind fun v6 => if (hsh A x0).1 = 8 then ((f_X9_isSentAhead A x0 v4 v6).bind fun v9 => (if v9 = (0 : Int32) then k_X9_sentBehind_92 rec6 A x0 x1 x2 x3 x4 x5 else k_X9_sentBehind_87 rec6 A x0 x1 x2 x3 x5)) else none))))
set_option maxRecDepth 100000 in
theorem s_X9_sentBehind_58 {κ : KT} {r : Int32} {A : Hp} {x0 : Nat} {x1 : Int32} {x2 : Int32} {x3 : Int32} {x4 : Int32} {x5 : Int32} {t0 : Int32} {rec6 : Int32 → Int32 → Option (Int32)} (K : Cx κ cX9_sentBehind 7 RX9 7 175 0 0) (E : Ed κ (some .int) "sentBehind" (.inl (some (.inl r))) A 0 0) (hr6 : ∀ (x4 : Int32) (x5 : Int32), rec6 x4 x5 = some r → Vw κ A 0 0 6 [(0, .inr (.inr x0)), (1, .inl x1), (2, .inl x2), (3, .inl x3), (4, .inl x4), (5, .inl x5)] []) (h : k_X9_sentBehind_58 rec6 A x0 x1 x2 x3 x4 x5 t0 = some r) : Vw κ A 0 0 58 [(0, .inr (.inr x0)), (1, .inl x1), (2, .inl x2), (3, .inl x3), (4, .inl x4), (5, .inl x5)] [.inl t0] := by
  unfold k_X9_sentBehind_58 at h
  refine Vw.istore (pc := 58) K dX9_sentBehind_58 (by decide) ?_
  refine Vw.iload (pc := 60) (x := t0) K dX9_sentBehind_60 rfl ?_
  refine Vw.if_eq (pc := 62) (tgt := 92) K dX9_sentBehind_62 (by decide) (fun c1 => ?_) (fun c1 => ?_)
  · have h := wpos c1 h
    exact Vw.loc rfl (s_X9_sentBehind_92 K E hr6 h)
  · have h := wneg c1 h
    refine Vw.iload (pc := 65) (x := x4) K dX9_sentBehind_65 rfl ?_
    refine Vw.if_lt (pc := 67) (tgt := 87) K dX9_sentBehind_67 (by decide) (fun c2 => ?_) (fun c2 => ?_)
    · have h := wpos c2 h
      exact Vw.loc rfl (s_X9_sentBehind_87 K E hr6 h)
    · have h := wneg c2 h
      refine Vw.aload_n (pc := 70) (x := x0) K dX9_sentBehind_70 rfl ?_
      refine Vw.iload (pc := 71) (x := x5) K dX9_sentBehind_71 rfl ?_
      obtain ⟨v4, e3, h⟩ := wbd h
      refine Vw.cS1 (pc := 73) (v := .inl v4) (c' := 0) (n' := 0) K (s_X9_cookie K.tr e3) cal_X9_cookie u_7_102 rfl ⟨by decide, by decide⟩ ⟨by decide, by decide⟩ rfl (Nat.le_of_ble_eq_true rfl) dX9_sentBehind_73 rfl rfl ?_
      refine Vw.iload (pc := 76) (x := x4) K dX9_sentBehind_76 rfl ?_
      obtain ⟨v6, e5, h⟩ := wbd h
      refine Vw.cS1 (pc := 78) (v := .inl v6) (c' := 0) (n' := 0) K (s_X9_cookie K.tr e5) cal_X9_cookie u_7_102 rfl ⟨by decide, by decide⟩ ⟨by decide, by decide⟩ rfl (Nat.le_of_ble_eq_true rfl) dX9_sentBehind_78 rfl rfl ?_
      obtain ⟨g7, h⟩ := wgd h
      obtain ⟨v9, e8, h⟩ := wbd h
      refine Vw.cV1 (pc := 81) (v := .inl v9) (c' := 0) (n' := 0) K (s_X9_isSentAhead K.tr e8) cal_X9_isSentAhead cls7 u_7_183 g7 rfl ⟨by decide, by decide⟩ ⟨by decide, by decide⟩ rfl (Nat.le_of_ble_eq_true rfl) dX9_sentBehind_81 rfl rfl ?_
      refine Vw.if_eq (pc := 84) (tgt := 92) K dX9_sentBehind_84 (by decide) (fun c10 => ?_) (fun c10 => ?_)
      · have h := wpos c10 h
        exact Vw.loc rfl (s_X9_sentBehind_92 K E hr6 h)
      · have h := wneg c10 h
        exact Vw.loc rfl (s_X9_sentBehind_87 K E hr6 h)
def k_X9_sentBehind_57 (rec6 : Int32 → Int32 → Option (Int32)) (A : Hp) (x0 : Nat) (x1 : Int32) (x2 : Int32) (x3 : Int32) (x4 : Int32) (x5 : Int32)  : Option (Int32) := k_X9_sentBehind_58 rec6 A x0 x1 x2 x3 x4 x5 (0 : Int32)
set_option maxRecDepth 100000 in
theorem s_X9_sentBehind_57 {κ : KT} {r : Int32} {A : Hp} {x0 : Nat} {x1 : Int32} {x2 : Int32} {x3 : Int32} {x4 : Int32} {x5 : Int32}  {rec6 : Int32 → Int32 → Option (Int32)} (K : Cx κ cX9_sentBehind 7 RX9 7 175 0 0) (E : Ed κ (some .int) "sentBehind" (.inl (some (.inl r))) A 0 0) (hr6 : ∀ (x4 : Int32) (x5 : Int32), rec6 x4 x5 = some r → Vw κ A 0 0 6 [(0, .inr (.inr x0)), (1, .inl x1), (2, .inl x2), (3, .inl x3), (4, .inl x4), (5, .inl x5)] []) (h : k_X9_sentBehind_57 rec6 A x0 x1 x2 x3 x4 x5  = some r) : Vw κ A 0 0 57 [(0, .inr (.inr x0)), (1, .inl x1), (2, .inl x2), (3, .inl x3), (4, .inl x4), (5, .inl x5)] [] := by
  unfold k_X9_sentBehind_57 at h
  refine Vw.iconst (pc := 57) (v := (0 : Int32)) K (by decide) dX9_sentBehind_57 ?_
  exact Vw.loc rfl (s_X9_sentBehind_58 K E hr6 h)
def k_X9_sentBehind_53 (rec6 : Int32 → Int32 → Option (Int32)) (A : Hp) (x0 : Nat) (x1 : Int32) (x2 : Int32) (x3 : Int32) (x4 : Int32) (x5 : Int32)  : Option (Int32) := k_X9_sentBehind_58 rec6 A x0 x1 x2 x3 x4 x5 (1 : Int32)
set_option maxRecDepth 100000 in
theorem s_X9_sentBehind_53 {κ : KT} {r : Int32} {A : Hp} {x0 : Nat} {x1 : Int32} {x2 : Int32} {x3 : Int32} {x4 : Int32} {x5 : Int32}  {rec6 : Int32 → Int32 → Option (Int32)} (K : Cx κ cX9_sentBehind 7 RX9 7 175 0 0) (E : Ed κ (some .int) "sentBehind" (.inl (some (.inl r))) A 0 0) (hr6 : ∀ (x4 : Int32) (x5 : Int32), rec6 x4 x5 = some r → Vw κ A 0 0 6 [(0, .inr (.inr x0)), (1, .inl x1), (2, .inl x2), (3, .inl x3), (4, .inl x4), (5, .inl x5)] []) (h : k_X9_sentBehind_53 rec6 A x0 x1 x2 x3 x4 x5  = some r) : Vw κ A 0 0 53 [(0, .inr (.inr x0)), (1, .inl x1), (2, .inl x2), (3, .inl x3), (4, .inl x4), (5, .inl x5)] [] := by
  unfold k_X9_sentBehind_53 at h
  refine Vw.iconst (pc := 53) (v := (1 : Int32)) K (by decide) dX9_sentBehind_53 ?_
  refine Vw.goto (pc := 54) (tgt := 58) K dX9_sentBehind_54 (by decide) ?_
  exact Vw.loc rfl (s_X9_sentBehind_58 K E hr6 h)
def k_X9_sentBehind_6s (A : Hp) (x0 : Nat) (x1 : Int32) (x2 : Int32) (x3 : Int32)  (rec6 : Int32 → Int32 → Option (Int32))  (x4 : Int32) (x5 : Int32) : Option (Int32) := if (hsh A x0).1 = 8 then if (hsh A (hgR A 448 x0 0)).1 = 11 then if wix (5 : Int32) (hsh A (hgR A 448 x0 0)).2 then (if (hgL A 1035 (hgR A 448 x0 0) (5 : Int32).toNatClampNeg) ≤ x5.toInt64 then some x4 else ((f_X9_cookie A x5).bind fun v16 => ((f_X9_isSent A x0 v16 x2 x3).bind fun v18 => (if v18 = (0 : Int32) then k_X9_sentBehind_57 rec6 A x0 x1 x2 x3 x4 x5 else (if x1 < (0 : Int32) then k_X9_sentBehind_53 rec6 A x0 x1 x2 x3 x4 x5 else ((f_X9_cookie A x1).bind fun v22 => ((f_X9_cookie A x5).bind fun v24 => ((f_X9_isSentAhead A x0 v22 v24).bind fun v26 => (if v26 = (0 : Int32) then k_X9_sentBehind_57 rec6 A x0 x1 x2 x3 x4 x5 else k_X9_sentBehind_53 rec6 A x0 x1 x2 x3 x4 x5))))))))) else none else none else none
def k_X9_sentBehind_6 (A : Hp) (x0 : Nat) (x1 : Int32) (x2 : Int32) (x3 : Int32)  : Nat → Int32 → Int32 → Option (Int32)
  | 0 => fun _ _ => none
  | fu + 1 => k_X9_sentBehind_6s A x0 x1 x2 x3  (k_X9_sentBehind_6 A x0 x1 x2 x3  fu)
set_option maxRecDepth 100000 in
theorem s_X9_sentBehind_6 {κ : KT} {r : Int32} {A : Hp} {x0 : Nat} {x1 : Int32} {x2 : Int32} {x3 : Int32}  (K : Cx κ cX9_sentBehind 7 RX9 7 175 0 0) (E : Ed κ (some .int) "sentBehind" (.inl (some (.inl r))) A 0 0)  : ∀ (fu : Nat)  (x4 : Int32) (x5 : Int32),  k_X9_sentBehind_6 A x0 x1 x2 x3  fu x4 x5 = some r → Vw κ A 0 0 6 [(0, .inr (.inr x0)), (1, .inl x1), (2, .inl x2), (3, .inl x3), (4, .inl x4), (5, .inl x5)] [] := by
  intro fu
  induction fu with
  | zero => intro x4 x5 h; cases h
  | succ fu hr6 =>
    intro x4 x5 h
    have h : k_X9_sentBehind_6s A x0 x1 x2 x3  (k_X9_sentBehind_6 A x0 x1 x2 x3  fu) x4 x5 = some r := h
    unfold k_X9_sentBehind_6s at h
    refine Vw.iload (pc := 6) (x := x5) K dX9_sentBehind_6 rfl ?_
    refine Vw.i2l (pc := 8) K dX9_sentBehind_8 ?_
    refine Vw.aload_n (pc := 9) (x := x0) K dX9_sentBehind_9 rfl ?_
    obtain ⟨g11, h⟩ := wgd h
    refine Vw.getR (pc := 10) (k := 0) (f := 448) K cls7 rfl rfl u_6_17 g11 dX9_sentBehind_10 ?_
    refine Vw.iconst (pc := 13) (v := (5 : Int32)) K (by decide) dX9_sentBehind_13 ?_
    obtain ⟨g12, h⟩ := wgd h
    obtain ⟨g13, h⟩ := wgd h
    refine Vw.laload (pc := 14) K g12 g13 dX9_sentBehind_14 ?_
    refine Vw.lcmp_ge (pc := 15) (tgt := 102) K dX9_sentBehind_15 dX9_sentBehind_16 (by decide) (fun c14 => ?_) (fun c14 => ?_)
    · have h := wpos c14 h
      refine Vw.iload (pc := 102) (x := x4) K dX9_sentBehind_102 rfl ?_
      exact Vw.iretE (pc := 104) K (Option.some.inj h) rfl E (by decide) (by decide) dX9_sentBehind_104
    · have h := wneg c14 h
      refine Vw.aload_n (pc := 19) (x := x0) K dX9_sentBehind_19 rfl ?_
      refine Vw.iload (pc := 20) (x := x5) K dX9_sentBehind_20 rfl ?_
      obtain ⟨v16, e15, h⟩ := wbd h
      refine Vw.cS1 (pc := 22) (v := .inl v16) (c' := 0) (n' := 0) K (s_X9_cookie K.tr e15) cal_X9_cookie u_7_102 rfl ⟨by decide, by decide⟩ ⟨by decide, by decide⟩ rfl (Nat.le_of_ble_eq_true rfl) dX9_sentBehind_22 rfl rfl ?_
      refine Vw.iload_n (pc := 25) (x := x2) K dX9_sentBehind_25 rfl ?_
      refine Vw.iload_n (pc := 26) (x := x3) K dX9_sentBehind_26 rfl ?_
      obtain ⟨v18, e17, h⟩ := wbd h
      refine Vw.cV1 (pc := 27) (v := .inl v18) (c' := 0) (n' := 0) K (s_X9_isSent K.tr e17) cal_X9_isSent cls7 u_7_179 g11 rfl ⟨by decide, by decide⟩ ⟨by decide, by decide⟩ rfl (Nat.le_of_ble_eq_true rfl) dX9_sentBehind_27 rfl rfl ?_
      refine Vw.if_eq (pc := 30) (tgt := 57) K dX9_sentBehind_30 (by decide) (fun c19 => ?_) (fun c19 => ?_)
      · have h := wpos c19 h
        exact Vw.loc rfl (s_X9_sentBehind_57 K E hr6 h)
      · have h := wneg c19 h
        refine Vw.iload_n (pc := 33) (x := x1) K dX9_sentBehind_33 rfl ?_
        refine Vw.if_lt (pc := 34) (tgt := 53) K dX9_sentBehind_34 (by decide) (fun c20 => ?_) (fun c20 => ?_)
        · have h := wpos c20 h
          exact Vw.loc rfl (s_X9_sentBehind_53 K E hr6 h)
        · have h := wneg c20 h
          refine Vw.aload_n (pc := 37) (x := x0) K dX9_sentBehind_37 rfl ?_
          refine Vw.iload_n (pc := 38) (x := x1) K dX9_sentBehind_38 rfl ?_
          obtain ⟨v22, e21, h⟩ := wbd h
          refine Vw.cS1 (pc := 39) (v := .inl v22) (c' := 0) (n' := 0) K (s_X9_cookie K.tr e21) cal_X9_cookie u_7_102 rfl ⟨by decide, by decide⟩ ⟨by decide, by decide⟩ rfl (Nat.le_of_ble_eq_true rfl) dX9_sentBehind_39 rfl rfl ?_
          refine Vw.iload (pc := 42) (x := x5) K dX9_sentBehind_42 rfl ?_
          obtain ⟨v24, e23, h⟩ := wbd h
          refine Vw.cS1 (pc := 44) (v := .inl v24) (c' := 0) (n' := 0) K (s_X9_cookie K.tr e23) cal_X9_cookie u_7_102 rfl ⟨by decide, by decide⟩ ⟨by decide, by decide⟩ rfl (Nat.le_of_ble_eq_true rfl) dX9_sentBehind_44 rfl rfl ?_
          obtain ⟨v26, e25, h⟩ := wbd h
          refine Vw.cV1 (pc := 47) (v := .inl v26) (c' := 0) (n' := 0) K (s_X9_isSentAhead K.tr e25) cal_X9_isSentAhead cls7 u_7_183 g11 rfl ⟨by decide, by decide⟩ ⟨by decide, by decide⟩ rfl (Nat.le_of_ble_eq_true rfl) dX9_sentBehind_47 rfl rfl ?_
          refine Vw.if_eq (pc := 50) (tgt := 57) K dX9_sentBehind_50 (by decide) (fun c27 => ?_) (fun c27 => ?_)
          · have h := wpos c27 h
            exact Vw.loc rfl (s_X9_sentBehind_57 K E hr6 h)
          · have h := wneg c27 h
            exact Vw.loc rfl (s_X9_sentBehind_53 K E hr6 h)
def f_X9_sentBehind (A : Hp) (x0 : Nat) (x1 : Int32) (x2 : Int32) (x3 : Int32) : Option (Int32) := k_X9_sentBehind_6 A x0 x1 x2 x3 FU (-1 : Int32) (0 : Int32)
set_option maxRecDepth 100000 in
theorem s_X9_sentBehind {l : Launch} {g : GT} (hl : l.stackTraces = false) {A : Hp} {x0 : Nat} {x1 : Int32} {x2 : Int32} {x3 : Int32} {r : Int32} (h : f_X9_sentBehind A x0 x1 x2 x3 = some r) : MetV l g yX9_sentBehind (.code yX9_sentBehind cX9_sentBehind 7 (some .int)) [.inr (.inr x0), .inl x1, .inl x2, .inl x3] A (.inl (some (.inl r))) A 7 175 0 0 := by
  refine MetV.ofV hl (by decide +kernel) (Nat.le_of_ble_eq_true rfl) (fun κ K E => ?_)
  have K : Cx κ cX9_sentBehind 7 RX9 7 175 0 0 := K
  have E : Ed κ (some .int) "sentBehind" (.inl (some (.inl r))) A 0 0 := E
  unfold f_X9_sentBehind at h
  change Vw κ A 0 0 0 [(0, .inr (.inr x0)), (1, .inl x1), (2, .inl x2), (3, .inl x3)] []
  refine Vw.iconst (pc := 0) (v := (-1 : Int32)) K (by decide) dX9_sentBehind_0 ?_
  refine Vw.istore (pc := 1) K dX9_sentBehind_1 (by decide) ?_
  refine Vw.iconst (pc := 3) (v := (0 : Int32)) K (by decide) dX9_sentBehind_3 ?_
  refine Vw.istore (pc := 4) K dX9_sentBehind_4 (by decide) ?_
  exact Vw.loc rfl (s_X9_sentBehind_6 K E  _ _ _ h)
theorem cal_X9_sentBehind : wCalV RX9 yX9_sentBehind (.code yX9_sentBehind cX9_sentBehind 7 (some .int)) 3 := ⟨by decide +kernel, u_7_177, us_6_1, u_1_9, u_7_178⟩
def f_X9_writes (A : Hp) (x0 : Nat) (x1 : Int32) (x2 : Int32) : Option (Hp) := if (hsh A x0).1 = 8 then if (hsh A (hgR A 448 x0 0)).1 = 11 then if wix (8 : Int32) (hsh A (hgR A 448 x0 0)).2 then ((f_X9_copies A x0 x1 x2 ((380 : Int32) + ((hgL A 1035 (hgR A 448 x0 0) (8 : Int32).toNatClampNeg).toInt32))).bind fun A5 => if (hsh A5 x0).1 = 8 then if (hsh A5 (hgR A5 448 x0 0)).1 = 11 then if wix (8 : Int32) (hsh A5 (hgR A5 448 x0 0)).2 then some (hsL A5 1035 (hgR A5 448 x0 0) (8 : Int32).toNatClampNeg ((hgL A5 1035 (hgR A5 448 x0 0) (8 : Int32).toNatClampNeg) + x2.toInt64)) else none else none else none) else none else none else none
set_option maxRecDepth 100000 in
theorem s_X9_writes {l : Launch} {g : GT} (hl : l.stackTraces = false) {A : Hp} {x0 : Nat} {x1 : Int32} {x2 : Int32} {B : Hp} (h : f_X9_writes A x0 x1 x2 = some B) : MetV l g yX9_writes (.code yX9_writes cX9_writes 3 none) [.inr (.inr x0), .inl x1, .inl x2] A (.inl none) B 1 24 0 0 := by
  refine MetV.ofV hl (by decide +kernel) (Nat.le_of_ble_eq_true rfl) (fun κ K E => ?_)
  have K : Cx κ cX9_writes 3 RX9 1 24 0 0 := K
  have E : Ed κ none "writes" (.inl none) B 0 0 := E
  unfold f_X9_writes at h
  change Vw κ A 0 0 0 [(0, .inr (.inr x0)), (1, .inl x1), (2, .inl x2)] []
  refine Vw.aload_n (pc := 0) (x := x0) K dX9_writes_0 rfl ?_
  refine Vw.iload_n (pc := 1) (x := x1) K dX9_writes_1 rfl ?_
  refine Vw.iload_n (pc := 2) (x := x2) K dX9_writes_2 rfl ?_
  refine Vw.sipush (pc := 3) (v := (380 : Int32)) K (by decide) dX9_writes_3 ?_
  refine Vw.aload_n (pc := 6) (x := x0) K dX9_writes_6 rfl ?_
  obtain ⟨g1, h⟩ := wgd h
  refine Vw.getR (pc := 7) (k := 0) (f := 448) K cls7 rfl rfl u_6_17 g1 dX9_writes_7 ?_
  refine Vw.bipush (pc := 10) (v := (8 : Int32)) K (by decide) dX9_writes_10 ?_
  obtain ⟨g2, h⟩ := wgd h
  obtain ⟨g3, h⟩ := wgd h
  refine Vw.laload (pc := 12) K g2 g3 dX9_writes_12 ?_
  refine Vw.l2i (pc := 13) K dX9_writes_13 ?_
  refine Vw.iadd (pc := 14) K dX9_writes_14 ?_
  obtain ⟨A5, e4, h⟩ := wbd h
  refine Vw.cV0 (pc := 15) (c' := 0) (n' := 0) K (s_X9_copies K.tr e4) cal_X9_copies cls7 u_6_170 g1 rfl ⟨by decide, by decide⟩ ⟨by decide, by decide⟩ rfl (Nat.le_of_ble_eq_true rfl) dX9_writes_15 rfl rfl ?_
  refine Vw.aload_n (pc := 18) (x := x0) K dX9_writes_18 rfl ?_
  obtain ⟨g6, h⟩ := wgd h
  refine Vw.getR (pc := 19) (k := 0) (f := 448) K cls7 rfl rfl u_6_17 g6 dX9_writes_19 ?_
  refine Vw.bipush (pc := 22) (v := (8 : Int32)) K (by decide) dX9_writes_22 ?_
  refine Vw.dup2 (pc := 24) K rfl rfl dX9_writes_24 ?_
  obtain ⟨g7, h⟩ := wgd h
  obtain ⟨g8, h⟩ := wgd h
  refine Vw.laload (pc := 25) K g7 g8 dX9_writes_25 ?_
  refine Vw.iload_n (pc := 26) (x := x2) K dX9_writes_26 rfl ?_
  refine Vw.i2l (pc := 27) K dX9_writes_27 ?_
  refine Vw.ladd (pc := 28) K dX9_writes_28 ?_
  refine Vw.lastore (pc := 29) K g7 g8 dX9_writes_29 ?_
  exact Vw.vretE (pc := 30) K (Option.some.inj h) E (by decide) (by decide) dX9_writes_30
theorem cal_X9_writes : wCalV RX9 yX9_writes (.code yX9_writes cX9_writes 3 none) 2 := ⟨by decide +kernel, u_7_193, us_6_5, u_1_9, u_7_194⟩
def f_X9_writesSign (A : Hp) (x0 : Nat) (x1 : Int32) : Option (Hp) := if (hsh A x0).1 = 8 then if (hsh A (hgR A 448 x0 0)).1 = 11 then if wix (8 : Int32) (hsh A (hgR A 448 x0 0)).2 then if wix ((380 : Int32) + ((hgL A 1035 (hgR A 448 x0 0) (8 : Int32).toNatClampNeg).toInt32)) (hsh A (hgR A 448 x0 0)).2 then if (hsh (hsL A 1035 (hgR A 448 x0 0) ((380 : Int32) + ((hgL A 1035 (hgR A 448 x0 0) (8 : Int32).toNatClampNeg).toInt32)).toNatClampNeg x1.toInt64) (hgR (hsL A 1035 (hgR A 448 x0 0) ((380 : Int32) + ((hgL A 1035 (hgR A 448 x0 0) (8 : Int32).toNatClampNeg).toInt32)).toNatClampNeg x1.toInt64) 448 x0 0)).1 = 11 then if wix (8 : Int32) (hsh (hsL A 1035 (hgR A 448 x0 0) ((380 : Int32) + ((hgL A 1035 (hgR A 448 x0 0) (8 : Int32).toNatClampNeg).toInt32)).toNatClampNeg x1.toInt64) (hgR (hsL A 1035 (hgR A 448 x0 0) ((380 : Int32) + ((hgL A 1035 (hgR A 448 x0 0) (8 : Int32).toNatClampNeg).toInt32)).toNatClampNeg x1.toInt64) 448 x0 0)).2 then some (hsL (hsL A 1035 (hgR A 448 x0 0) ((380 : Int32) + ((hgL A 1035 (hgR A 448 x0 0) (8 : Int32).toNatClampNeg).toInt32)).toNatClampNeg x1.toInt64) 1035 (hgR (hsL A 1035 (hgR A 448 x0 0) ((380 : Int32) + ((hgL A 1035 (hgR A 448 x0 0) (8 : Int32).toNatClampNeg).toInt32)).toNatClampNeg x1.toInt64) 448 x0 0) (8 : Int32).toNatClampNeg ((hgL (hsL A 1035 (hgR A 448 x0 0) ((380 : Int32) + ((hgL A 1035 (hgR A 448 x0 0) (8 : Int32).toNatClampNeg).toInt32)).toNatClampNeg x1.toInt64) 1035 (hgR (hsL A 1035 (hgR A 448 x0 0) ((380 : Int32) + ((hgL A 1035 (hgR A 448 x0 0) (8 : Int32).toNatClampNeg).toInt32)).toNatClampNeg x1.toInt64) 448 x0 0) (8 : Int32).toNatClampNeg) + (1 : Int64))) else none else none else none else none else none else none
set_option maxRecDepth 100000 in
theorem s_X9_writesSign {l : Launch} {g : GT} (hl : l.stackTraces = false) {A : Hp} {x0 : Nat} {x1 : Int32} {B : Hp} (h : f_X9_writesSign A x0 x1 = some B) : MetV l g yX9_writesSign (.code yX9_writesSign cX9_writesSign 2 none) [.inr (.inr x0), .inl x1] A (.inl none) B 0 0 0 0 := by
  refine MetV.ofV hl (by decide +kernel) (Nat.le_of_ble_eq_true rfl) (fun κ K E => ?_)
  have K : Cx κ cX9_writesSign 2 RX9 0 0 0 0 := K
  have E : Ed κ none "writesSign" (.inl none) B 0 0 := E
  unfold f_X9_writesSign at h
  change Vw κ A 0 0 0 [(0, .inr (.inr x0)), (1, .inl x1)] []
  refine Vw.aload_n (pc := 0) (x := x0) K dX9_writesSign_0 rfl ?_
  obtain ⟨g1, h⟩ := wgd h
  refine Vw.getR (pc := 1) (k := 0) (f := 448) K cls7 rfl rfl u_6_17 g1 dX9_writesSign_1 ?_
  refine Vw.sipush (pc := 4) (v := (380 : Int32)) K (by decide) dX9_writesSign_4 ?_
  refine Vw.aload_n (pc := 7) (x := x0) K dX9_writesSign_7 rfl ?_
  refine Vw.getR (pc := 8) (k := 0) (f := 448) K cls7 rfl rfl u_6_17 g1 dX9_writesSign_8 ?_
  refine Vw.bipush (pc := 11) (v := (8 : Int32)) K (by decide) dX9_writesSign_11 ?_
  obtain ⟨g2, h⟩ := wgd h
  obtain ⟨g3, h⟩ := wgd h
  refine Vw.laload (pc := 13) K g2 g3 dX9_writesSign_13 ?_
  refine Vw.l2i (pc := 14) K dX9_writesSign_14 ?_
  refine Vw.iadd (pc := 15) K dX9_writesSign_15 ?_
  refine Vw.iload_n (pc := 16) (x := x1) K dX9_writesSign_16 rfl ?_
  refine Vw.i2l (pc := 17) K dX9_writesSign_17 ?_
  obtain ⟨g4, h⟩ := wgd h
  refine Vw.lastore (pc := 18) K g2 g4 dX9_writesSign_18 ?_
  refine Vw.aload_n (pc := 19) (x := x0) K dX9_writesSign_19 rfl ?_
  refine Vw.getR (pc := 20) (k := 0) (f := 448) K cls7 rfl rfl u_6_17 g1 dX9_writesSign_20 ?_
  refine Vw.bipush (pc := 23) (v := (8 : Int32)) K (by decide) dX9_writesSign_23 ?_
  refine Vw.dup2 (pc := 25) K rfl rfl dX9_writesSign_25 ?_
  obtain ⟨g5, h⟩ := wgd h
  obtain ⟨g6, h⟩ := wgd h
  refine Vw.laload (pc := 26) K g5 g6 dX9_writesSign_26 ?_
  refine Vw.lconst (pc := 27) (v := (1 : Int64)) K (by decide) dX9_writesSign_27 ?_
  refine Vw.ladd (pc := 28) K dX9_writesSign_28 ?_
  refine Vw.lastore (pc := 29) K g5 g6 dX9_writesSign_29 ?_
  exact Vw.vretE (pc := 30) K (Option.some.inj h) E (by decide) (by decide) dX9_writesSign_30
theorem cal_X9_writesSign : wCalV RX9 yX9_writesSign (.code yX9_writesSign cX9_writesSign 2 none) 1 := ⟨by decide +kernel, u_7_189, us_6_4, u_1_9, u_7_190⟩
