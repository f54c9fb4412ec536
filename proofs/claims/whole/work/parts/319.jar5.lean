/-! the jar of the class: sending, dropping many -/
def crs (v : JV) : Bool := (jG v).1 && (decide ((jG v).2.1 ≠ (jR v).2.1) || !(sameSt (jU v) (jG v).2.2.1 (jR v).2.2.1))
def gos (v : JV) (c : CkV) (x nav sc : Bool) : Bool := (if cH c then decide ((jR v).2.2.1 = cD c) else dm (jR v).2.2.1 (cD c)) && (pm (jR v).2.2.2 (cP c) && (!(cX c && !(jR v).2.1) && (!(cO c && sc) && (!x || decide (cL c = 0) || (decide (cL c = 1) && nav)))))
section
variable {A : Hp} {J : Nat} {v : JV} {f : CkV}
theorem bI_eqI {a b : Bool} : bI a = bI b ↔ a = b := by cases a <;> cases b <;> decide
theorem Jr.isCrossSite (h : Jr A J v f) : f_X4_isCrossSite A J = some (bI (crs v)) := by
  obtain ⟨hS, hF, hQ, -, -⟩ := h
  have hG := hQ.2.1
  have hR := hQ.2.2.1
  have l1 := hG.2.2.2.1.2.2.1
  have l2 := hR.2.2.2.1.2.2.1
  unfold f_X4_isCrossSite k_X4_isCrossSite_51 crs
  rw [if_pos hS.1.1, hS.1.2.2.2.2.2.1, if_pos hG.1.1, hG.2.1, hS.1.2.2.2.2.2.2.1, if_pos hR.1.1, hG.2.2.1, hR.2.2.1, hS.1.2.2.2.2.1, if_pos hQ.1.1.1, hG.1.2.1, hR.1.2.1, hQ.1.sameSites hG.2.2.2.1 hR.2.2.2.1 (by omega) (by omega), Option.bind_some]
  simp only [bI_0, bI_eqI]
  generalize sameSt (jU v) (jG v).2.2.1 (jR v).2.2.1 = b1
  generalize (jG v).1 = b2
  generalize (jG v).2.1 = b3
  generalize (jR v).2.1 = b4
  cases b1 <;> cases b2 <;> cases b3 <;> cases b4 <;> rfl
theorem Jr.goes (h : Jr A J v f) {a : Nat} {c : CkV} (hc : Ck A a c) (ho : okv c) (x nav sc : Bool) : f_X4_goes A J a (bI x) (bI nav) (bI sc) = some (bI (gos v c x nav sc)) := by
  obtain ⟨hS, hF, hQ, -, -⟩ := h
  have hR := hQ.2.2.1
  have l1 := hR.2.2.2.1.2.2.1
  have l2 := hR.2.2.2.2.2.2.1
  obtain ⟨s0, ⟨-, a3, a4, a5, a6, a7, a8⟩, ⟨r1, r2, r3, r4⟩⟩ := hc
  have m1 := r3.2.2.1
  have m2 := r4.2.2.1
  have n1 : (nI (cL c) = 0) ↔ cL c = 0 := nI_eq (b := 0) (by have := ho.2.2.2.1; omega) (by omega)
  have n2 : (nI (cL c) = 1) ↔ cL c = 1 := nI_eq (b := 1) (by have := ho.2.2.2.1; omega) (by omega)
  have f95 : k_X4_goes_95 A a (bI x) (bI nav) = some (bI (!x || decide (cL c = 0) || (decide (cL c = 1) && nav))) := by
    unfold k_X4_goes_95 k_X4_goes_118
    rw [if_pos s0.1, a7]
    simp only [bI_0, n1, n2]
    by_cases q1 : cL c = 0
    · simp only [q1]
      cases x <;> cases nav <;> rfl
    · by_cases q2 : cL c = 1
      · simp only [q2]
        cases x <;> cases nav <;> rfl
      · simp only [q1, q2]
        cases x <;> cases nav <;> rfl
  have f81 : k_X4_goes_81 A a (bI x) (bI nav) (bI sc) = some (bI (!(cO c && sc) && (!x || decide (cL c = 0) || (decide (cL c = 1) && nav)))) := by
    unfold k_X4_goes_81
    rw [if_pos s0.1, a6, f95]
    generalize (!x || decide (cL c = 0) || (decide (cL c = 1) && nav)) = y
    generalize cO c = b1
    cases b1 <;> cases sc <;> rfl
  have f45 : k_X4_goes_45 A J a (bI x) (bI nav) (bI sc) = some (bI (pm (jR v).2.2.2 (cP c) && (!(cX c && !(jR v).2.1) && (!(cO c && sc) && (!x || decide (cL c = 0) || (decide (cL c = 1) && nav)))))) := by
    unfold k_X4_goes_45
    rw [if_pos hS.1.1, hS.1.2.2.2.2.2.2.1, if_pos hR.1.1, if_pos s0.1, hR.1.2.2, if_pos hR.2.2.2.2.1.1, s0.2.2.2.2, hR.2.2.2.2.pathMatches r4 (by omega) (by omega) ho.2.1, Option.bind_some, a5, hR.2.2.1, f81]
    generalize (!(cO c && sc) && (!x || decide (cL c = 0) || (decide (cL c = 1) && nav))) = y
    generalize pm (jR v).2.2.2 (cP c) = b1
    generalize cX c = b2
    generalize (jR v).2.1 = b3
    cases b1 <;> cases b2 <;> cases b3 <;> rfl
  unfold f_X4_goes gos
  rw [if_pos hS.1.1, hS.1.2.2.2.2.2.2.1, if_pos hR.1.1, if_pos s0.1, a4, hR.1.2.1, if_pos hR.2.2.2.1.1.1, s0.2.2.2.1, hR.2.2.2.1.domainMatches r3 (by omega) (by omega), Option.bind_some, if_pos hR.2.2.2.1.1.1, hR.2.2.2.1.same r3 (by omega) (by omega), Option.bind_some, f45]
  generalize (pm (jR v).2.2.2 (cP c) && (!(cX c && !(jR v).2.1) && (!(cO c && sc) && (!x || decide (cL c = 0) || (decide (cL c = 1) && nav))))) = y
  generalize dm (jR v).2.2.1 (cD c) = b1
  generalize decide ((jR v).2.2.1 = cD c) = b2
  generalize cH c = b3
  cases b1 <;> cases b2 <;> cases b3 <;> rfl
end
def flt (p : CkV → Bool) (cs : List CkV) : List CkV := cs.filter (fun c => !p c)
theorem flt_step {p : CkV → Bool} {cs : List CkV} {m : Nat} (h : m < cs.length) : cg (cs.take (m + 1) ++ flt p (cs.drop (m + 1))) m = cg cs m ∧ (p (cg cs m) = true → (cs.take (m + 1) ++ flt p (cs.drop (m + 1))).eraseIdx m = cs.take m ++ flt p (cs.drop m)) ∧ (p (cg cs m) = false → cs.take (m + 1) ++ flt p (cs.drop (m + 1)) = cs.take m ++ flt p (cs.drop m)) := by
  have hl : (cs.take m).length = m := by rw [List.length_take]; omega
  have hcg : cg cs m = cs[m] := by rw [cg, List.getD_eq_getElem?_getD, List.getElem?_eq_getElem h]; rfl
  have ht : cs.take (m + 1) = cs.take m ++ [cg cs m] := by rw [List.take_add_one, List.getElem?_eq_getElem h, hcg]; rfl
  refine ⟨cg_of ?_, fun hp => ?_, fun hp => ?_⟩
  · rw [List.getElem?_append_left (by rw [List.length_take]; omega), List.getElem?_take_of_lt (by omega)]
  · have : flt p (cs.drop m) = flt p (cs.drop (m + 1)) := by
      rw [cg_drop h]
      unfold flt
      rw [List.filter_cons_of_neg (by rw [hp]; decide)]
    rw [ht, this, List.append_assoc, List.eraseIdx_append_of_length_le (by omega), hl, Nat.sub_self]
    rfl
  · have : flt p (cs.drop m) = cg cs m :: flt p (cs.drop (m + 1)) := by
      rw [cg_drop h]
      unfold flt
      rw [List.filter_cons_of_pos (by rw [hp]; decide)]
    rw [ht, this, List.append_assoc]
    rfl
theorem flt_len (p : CkV → Bool) (cs : List CkV) : (flt p cs).length ≤ cs.length := List.length_filter_le _ _
theorem m1_nI (m : Nat) : nI (m + 1) - (1 : Int32) = nI m := nI_pred m
section
variable {A : Hp} {J : Nat} {v : JV} {f : CkV}
theorem Jr.dropSession (h : Jr A J v f) : ∃ B, f_X4_dropSession A J = some (nI ((jC v).length - (flt (fun c => decide (cE c = -1)) (jC v)).length), B) ∧ Jr B J (jsC v (flt (fun c => decide (cE c = -1)) (jC v))) f ∧ Eqx (jrP J) A B := by
  have hlen : (jC v).length ≤ 41 := by obtain ⟨ad, h4⟩ := h.2.2.2.1; exact h4.2.2.2.2.1
  have hsz : hgI A 129 J 0 = nI (jC v).length := by obtain ⟨ad, h4⟩ := h.2.2.2.1; exact h4.2.2.2.1
  have L : ∀ m fu A', m ≤ (jC v).length → m < fu → Jr A' J (jsC v ((jC v).take m ++ flt (fun c => decide (cE c = -1)) ((jC v).drop m))) f → ∃ B, k_X4_dropSession_12 J (nI (jC v).length) fu A' (nI m - 1) = some (nI ((jC v).length - (flt (fun c => decide (cE c = -1)) (jC v)).length), B) ∧ Jr B J (jsC v (flt (fun c => decide (cE c = -1)) (jC v))) f ∧ Eqx (jrP J) A' B := by
    intro m
    induction m with
    | zero =>
      intro fu A' h1 h2 hj
      obtain ⟨fu, rfl⟩ : ∃ f, fu = f + 1 := ⟨fu - 1, by omega⟩
      rw [List.take_zero, List.drop_zero, List.nil_append] at hj
      obtain ⟨ad, h4⟩ := hj.2.2.2.1
      refine ⟨A', ?_, hj, Eqx.rf⟩
      show k_X4_dropSession_12s J _ _ _ _ = _
      unfold k_X4_dropSession_12s
      have := flt_len (fun c => decide (cE c = -1)) (jC v)
      rw [if_pos (by decide), if_pos hj.1.1.1, h4.2.2.2.1]
      show some (nI (jC v).length - nI (flt (fun c => decide (cE c = -1)) (jC v)).length, A') = _
      rw [pk_sub this]
    | succ m ih =>
      intro fu A' h1 h2 hj
      obtain ⟨fu, rfl⟩ : ∃ f, fu = f + 1 := ⟨fu - 1, by omega⟩
      obtain ⟨ad, h4⟩ := hj.2.2.2.1
      have h4 : JC A' J ad ((jC v).take (m + 1) ++ flt (fun c => decide (cE c = -1)) ((jC v).drop (m + 1))) := h4
      have hml : m < ((jC v).take (m + 1) ++ flt (fun c => decide (cE c = -1)) ((jC v).drop (m + 1))).length := by rw [List.length_append, List.length_take]; omega
      have hk := h4.2.2.2.2.2.1 m hml
      obtain ⟨g1, g2, g3⟩ := flt_step (p := fun c => decide (cE c = -1)) (cs := jC v) (m := m) (by omega)
      rw [g1] at hk
      rw [m1_nI]
      have st : k_X4_dropSession_12 J (nI (jC v).length) (fu + 1) A' (nI m) = k_X4_dropSession_12s J (nI (jC v).length) (k_X4_dropSession_12 J (nI (jC v).length) fu) A' (nI m) := rfl
      rw [st]
      unfold k_X4_dropSession_12s k_X4_dropSession_37
      have pm1 : nI m + (-1 : Int32) = nI m - 1 := by rw [Int32.sub_eq_add_neg]
      rw [if_neg (nI_pos (by omega)), if_pos hj.1.1.1, hj.1.1.2.1, hj.1.2.1, if_pos rfl, if_pos ((nI_wix (by omega)).mpr (show m < 41 by omega)), nI_clamp (by omega), h4.1 m (by omega), if_pos hk.1.1, hk.2.1.1.1, pm1]
      by_cases q : cE (cg (jC v) m) = -1
      · rw [if_pos q]
        obtain ⟨B, e1, e2, e3⟩ := hj.drop (i := m) hml
        rw [e1, Option.bind_some]
        have e2 : Jr B J (jsC v (((jC v).take (m + 1) ++ flt (fun c => decide (cE c = -1)) ((jC v).drop (m + 1))).eraseIdx m)) f := e2
        rw [g2 (decide_eq_true q)] at e2
        obtain ⟨C, f1, f2, f3⟩ := ih fu B (by omega) (by omega) e2
        exact ⟨C, f1, f2, e3.tr f3⟩
      · rw [if_neg q]
        rw [g3 (decide_eq_false q)] at hj
        exact ih fu A' (by omega) (by omega) hj
  unfold f_X4_dropSession
  rw [if_pos h.1.1.1, hsz]
  exact L (jC v).length FU A (Nat.le_refl _) (by unfold FU; omega) (by rw [List.take_length, List.drop_length]; show Jr A J (jsC v (jC v ++ [])) f; rw [List.append_nil]; exact h)
theorem Jr.dropSite (h : Jr A J v f) {r cap : Nat} {d : List Int32} (hr : Rw A r cap d) (hd : d.length < 16000) (hrj : ¬ jjP J r) (hrj2 : ¬ jjP J (r + 1)) : ∃ B, f_X4_dropSite A J r = some (nI ((jC v).length - (flt (fun c => sameSt (jU v) (cD c) d) (jC v)).length), B) ∧ Jr B J (jsC v (flt (fun c => sameSt (jU v) (cD c) d) (jC v))) f ∧ Eqx (jrP J) A B := by
  have hlen : (jC v).length ≤ 41 := by obtain ⟨ad, h4⟩ := h.2.2.2.1; exact h4.2.2.2.2.1
  have hsz : hgI A 129 J 0 = nI (jC v).length := by obtain ⟨ad, h4⟩ := h.2.2.2.1; exact h4.2.2.2.1
  have L : ∀ m fu A', m ≤ (jC v).length → m < fu → Jr A' J (jsC v ((jC v).take m ++ flt (fun c => sameSt (jU v) (cD c) d) ((jC v).drop m))) f → Rw A' r cap d → ∃ B, k_X4_dropSite_12 J r (nI (jC v).length) fu A' (nI m - 1) = some (nI ((jC v).length - (flt (fun c => sameSt (jU v) (cD c) d) (jC v)).length), B) ∧ Jr B J (jsC v (flt (fun c => sameSt (jU v) (cD c) d) (jC v))) f ∧ Eqx (jrP J) A' B := by
    intro m
    induction m with
    | zero =>
      intro fu A' h1 h2 hj hr'
      obtain ⟨fu, rfl⟩ : ∃ f, fu = f + 1 := ⟨fu - 1, by omega⟩
      rw [List.take_zero, List.drop_zero, List.nil_append] at hj
      obtain ⟨ad, h4⟩ := hj.2.2.2.1
      refine ⟨A', ?_, hj, Eqx.rf⟩
      show k_X4_dropSite_12s J _ _ _ _ _ = _
      unfold k_X4_dropSite_12s
      have := flt_len (fun c => sameSt (jU v) (cD c) d) (jC v)
      rw [if_pos (by decide), if_pos hj.1.1.1, h4.2.2.2.1]
      show some (nI (jC v).length - nI (flt (fun c => sameSt (jU v) (cD c) d) (jC v)).length, A') = _
      rw [pk_sub this]
    | succ m ih =>
      intro fu A' h1 h2 hj hr'
      obtain ⟨fu, rfl⟩ : ∃ f, fu = f + 1 := ⟨fu - 1, by omega⟩
      obtain ⟨ad, h4⟩ := hj.2.2.2.1
      have h4 : JC A' J ad ((jC v).take (m + 1) ++ flt (fun c => sameSt (jU v) (cD c) d) ((jC v).drop (m + 1))) := h4
      have hml : m < ((jC v).take (m + 1) ++ flt (fun c => sameSt (jU v) (cD c) d) ((jC v).drop (m + 1))).length := by rw [List.length_append, List.length_take]; omega
      have hk := h4.2.2.2.2.2.1 m hml
      obtain ⟨g1, g2, g3⟩ := flt_step (p := fun c => sameSt (jU v) (cD c) d) (cs := jC v) (m := m) (by omega)
      rw [g1] at hk
      rw [m1_nI]
      have st : k_X4_dropSite_12 J r (nI (jC v).length) (fu + 1) A' (nI m) = k_X4_dropSite_12s J r (nI (jC v).length) (k_X4_dropSite_12 J r (nI (jC v).length) fu) A' (nI m) := rfl
      rw [st]
      unfold k_X4_dropSite_12s k_X4_dropSite_41
      have pm1 : nI m + (-1 : Int32) = nI m - 1 := by rw [Int32.sub_eq_add_neg]
      have hU : Sx A' (J + 381) (jU v) := hj.2.2.1.1
      rw [if_neg (nI_pos (by omega)), if_pos hj.1.1.1, hj.1.1.2.1, hj.1.2.1, if_pos rfl, if_pos ((nI_wix (by omega)).mpr (show m < 41 by omega)), nI_clamp (by omega), h4.1 m (by omega), if_pos hk.1.1, hj.1.1.2.2.2.2.1, if_pos hU.1.1, hk.1.2.2.2.1, hU.sameSites hk.2.2.2.2.1 hr' (by have := hk.2.2.2.2.1.2.2.1; omega) hd, Option.bind_some, pm1]
      cases q : sameSt (jU v) (cD (cg (jC v) m)) d
      · rw [if_pos (by rfl)]
        rw [g3 q] at hj
        exact ih fu A' (by omega) (by omega) hj hr'
      · rw [if_neg (show ¬ bI true = 0 by decide)]
        obtain ⟨ad', h4'⟩ := hj.2.2.2.1
        obtain ⟨B', ad'', i1, i2, i3, i4, i5⟩ := h4'.drop hj.1 (i := m) hml
        obtain ⟨B, e1, e2, e3⟩ := hj.drop (i := m) hml
        have hBB : B = B' := by rw [i1] at e1; exact (Option.some.inj e1).symm
        subst hBB
        rw [e1, Option.bind_some]
        have e2 : Jr B J (jsC v (((jC v).take (m + 1) ++ flt (fun c => sameSt (jU v) (cD c) d) ((jC v).drop (m + 1))).eraseIdx m)) f := e2
        rw [g2 q] at e2
        obtain ⟨C, f1, f2, f3⟩ := ih fu B (by omega) (by omega) e2 (hr'.eq i5 hrj hrj2)
        exact ⟨C, f1, f2, e3.tr f3⟩
  unfold f_X4_dropSite
  rw [if_pos h.1.1.1, hsz]
  exact L (jC v).length FU A (Nat.le_refl _) (by unfold FU; omega) (by rw [List.take_length, List.drop_length]; show Jr A J (jsC v (jC v ++ [])) f; rw [List.append_nil]; exact h) hr
def jsT (v : JV) (t : Int64) : JV := (v.1, v.2.1, v.2.2.1, v.2.2.2.1, v.2.2.2.2.1, v.2.2.2.2.2.1, v.2.2.2.2.2.2.1, t)
def goB (t : Int64) (c : CkV) : Bool := decide (cE c ≠ -1 ∧ ¬ t < cE c)
theorem Jr.setT (h : Jr A J v f) (t : Int64) : Jr (hsL A 140 J 0 t) J (jsT v t) f ∧ Eqx (jrP J) A (hsL A 140 J 0 t) := by
  obtain ⟨h1, h2, h3, ⟨ad, h4⟩, h5⟩ := h
  have e : Eqx (fun q => q = J) A (hsL A 140 J 0 t) := ea_L
  obtain ⟨c1, c2, c3, c4, c5, c6, c7⟩ := h4
  refine ⟨⟨h1, ⟨h2.1, h2.2.1, by rw [hgL_sL, if_pos ⟨rfl, rfl, rfl⟩]; rfl⟩, h3.eq e (fun q z1 z2 w => by have w : q = J := w; omega), ⟨ad, c1, c2, c3, c4, c5, fun i hi => ?_, fun i hi => ?_⟩, h5.eq e (fun q z w => by have := z.1; have w : q = J := w; omega)⟩, e.mo (fun q w => by have w : q = J := w; constructor <;> omega)⟩
  · have hi : i < (jC v).length := hi
    obtain ⟨p, hp, ep⟩ := c2 i (by omega)
    exact (c6 i hi).eq e (fun q z w => by have := z.1; have w : q = J := w; omega)
  · obtain ⟨p, hp, ep⟩ := c2 i hi
    obtain ⟨w, hw⟩ := c7 i hi
    exact ⟨w, hw.eq e (fun q z w => by have := z.1; have w : q = J := w; omega)⟩
theorem Jr.pass (h : Jr A J v f) (s : Int32) : ∃ B, f_X4_pass A J s = some (nI ((jC v).length - (flt (goB (jT v + s.toInt64)) (jC v)).length), B) ∧ Jr B J (jsK (jsC (jsT v (jT v + s.toInt64)) (flt (goB (jT v + s.toInt64)) (jC v))) 3 ((jC v).length - (flt (goB (jT v + s.toInt64)) (jC v)).length)) f ∧ Eqx (jrP J) A B := by
  have hlen : (jC v).length ≤ 41 := by obtain ⟨ad, h4⟩ := h.2.2.2.1; exact h4.2.2.2.2.1
  have hsz : hgI A 129 J 0 = nI (jC v).length := by obtain ⟨ad, h4⟩ := h.2.2.2.1; exact h4.2.2.2.1
  generalize ht : jT v + s.toInt64 = t
  have L : ∀ m fu A', m ≤ (jC v).length → m < fu → Jr A' J (jsC (jsT v t) ((jC v).take m ++ flt (goB t) ((jC v).drop m))) f → ∃ B, k_X4_pass_23 J (nI (jC v).length) fu A' (nI m - 1) = some (nI ((jC v).length - (flt (goB t) (jC v)).length), B) ∧ Jr B J (jsK (jsC (jsT v t) (flt (goB t) (jC v))) 3 ((jC v).length - (flt (goB t) (jC v)).length)) f ∧ Eqx (jrP J) A' B := by
    intro m
    induction m with
    | zero =>
      intro fu A' h1 h2 hj
      obtain ⟨fu, rfl⟩ : ∃ f, fu = f + 1 := ⟨fu - 1, by omega⟩
      rw [List.take_zero, List.drop_zero, List.nil_append] at hj
      obtain ⟨ad, h4⟩ := hj.2.2.2.1
      have := flt_len (goB t) (jC v)
      have h44 : hgI A' 129 J 0 = nI (flt (goB t) (jC v)).length := h4.2.2.2.1
      refine ⟨_, ?_, (hj.bump (i := 3) ((jC v).length - (flt (goB t) (jC v)).length) (by omega)).1, (hj.bump (i := 3) ((jC v).length - (flt (goB t) (jC v)).length) (by omega)).2⟩
      show k_X4_pass_23s J _ _ _ _ = _
      unfold k_X4_pass_23s
      rw [if_pos (by decide), if_pos hj.1.1.1, hj.1.1.2.2.2.2.2.2.2.2.2, hj.1.2.2.2.2, if_pos rfl, if_pos (show wix (3 : Int32) (10, 7).2 by decide), show (3 : Int32).toNatClampNeg = 3 from rfl, hj.cnt (by omega), hgI_sI, if_neg (by omega), h44, pk_sub this]
    | succ m ih =>
      intro fu A' h1 h2 hj
      obtain ⟨fu, rfl⟩ : ∃ f, fu = f + 1 := ⟨fu - 1, by omega⟩
      obtain ⟨ad, h4⟩ := hj.2.2.2.1
      have h4 : JC A' J ad ((jC v).take (m + 1) ++ flt (goB t) ((jC v).drop (m + 1))) := h4
      have hml : m < ((jC v).take (m + 1) ++ flt (goB t) ((jC v).drop (m + 1))).length := by rw [List.length_append, List.length_take]; omega
      have hk := h4.2.2.2.2.2.1 m hml
      obtain ⟨g1, g2, g3⟩ := flt_step (p := goB t) (cs := jC v) (m := m) (by omega)
      rw [g1] at hk
      rw [m1_nI]
      have st : k_X4_pass_23 J (nI (jC v).length) (fu + 1) A' (nI m) = k_X4_pass_23s J (nI (jC v).length) (k_X4_pass_23 J (nI (jC v).length) fu) A' (nI m) := rfl
      rw [st]
      unfold k_X4_pass_23s k_X4_pass_65
      have pm1 : nI m + (-1 : Int32) = nI m - 1 := by rw [Int32.sub_eq_add_neg]
      rw [if_neg (nI_pos (by omega)), if_pos hj.1.1.1, hj.1.1.2.1, hj.1.2.1, if_pos rfl, if_pos ((nI_wix (by omega)).mpr (show m < 41 by omega)), nI_clamp (by omega), h4.1 m (by omega), if_pos hk.1.1, hk.2.1.1.1, hj.2.1.2.2, pm1]
      show ∃ B, (if cE (cg (jC v) m) = -1 then _ else if t < cE (cg (jC v) m) then _ else _) = some _ ∧ _
      by_cases q : cE (cg (jC v) m) = -1
      · rw [if_pos q]
        rw [g3 (decide_eq_false (fun z => z.1 q))] at hj
        exact ih fu A' (by omega) (by omega) hj
      · rw [if_neg q]
        by_cases q2 : t < cE (cg (jC v) m)
        · rw [if_pos q2]
          rw [g3 (decide_eq_false (fun z => z.2 q2))] at hj
          exact ih fu A' (by omega) (by omega) hj
        · rw [if_neg q2]
          obtain ⟨B, e1, e2, e3⟩ := hj.drop (i := m) hml
          rw [e1, Option.bind_some]
          have e2 : Jr B J (jsC (jsT v t) (((jC v).take (m + 1) ++ flt (goB t) ((jC v).drop (m + 1))).eraseIdx m)) f := e2
          rw [g2 (decide_eq_true ⟨q, q2⟩)] at e2
          obtain ⟨C, f1, f2, f3⟩ := ih fu B (by omega) (by omega) e2
          exact ⟨C, f1, f2, e3.tr f3⟩
  obtain ⟨z1, z2⟩ := h.setT t
  unfold f_X4_pass
  rw [if_pos h.1.1.1, h.2.1.2.2, hgI_sL, hsz]
  have ht' : jT v + s.toInt64 = t := ht
  rw [ht']
  obtain ⟨B, e1, e2, e3⟩ := L (jC v).length FU (hsL A 140 J 0 t) (Nat.le_refl _) (by unfold FU; omega) (by rw [List.take_length, List.drop_length]; show Jr _ J (jsC (jsT v t) (jC v ++ [])) f; rw [List.append_nil]; exact z1)
  exact ⟨B, e1, e2, z2.tr e3⟩
end
