/-! the jar of the class: accepting, whole -/
theorem Jr.setX {A : Hp} {J : Nat} {v : JV} {f : CkV} (h : Jr A J v f) (x : Nat) : Jr (hsI A 139 J 0 (nI x)) J (jsX v x) f ∧ Eqx (jrP J) A (hsI A 139 J 0 (nI x)) := by
  obtain ⟨h1, h2, h3, ⟨ad, h4⟩, h5⟩ := h
  have e : Eqx (fun q => q = J) A (hsI A 139 J 0 (nI x)) := ea_I
  obtain ⟨c1, c2, c3, c4, c5, c6, c7⟩ := h4
  refine ⟨⟨h1, ⟨by rw [hgI_sI, if_neg (by omega)]; exact h2.1, by rw [hgI_sI, if_pos ⟨rfl, rfl, rfl⟩]; rfl, h2.2.2⟩, h3.eq e (fun q z1 z2 w => by have w : q = J := w; omega), ⟨ad, c1, c2, c3, by rw [hgI_sI, if_neg (by omega)]; exact c4, c5, fun i hi => ?_, fun i hi => ?_⟩, h5.eq e (fun q z w => by have := z.1; have w : q = J := w; omega)⟩, e.mo (fun q w => by have w : q = J := w; constructor <;> omega)⟩
  · have hi : i < (jC v).length := hi
    obtain ⟨p, hp, ep⟩ := c2 i (by omega)
    exact (c6 i hi).eq e (fun q z w => by have := z.1; have w : q = J := w; omega)
  · obtain ⟨p, hp, ep⟩ := c2 i hi
    obtain ⟨w, hw⟩ := c7 i hi
    exact ⟨w, hw.eq e (fun q z w => by have := z.1; have w : q = J := w; omega)⟩
def cau2 (v : JV) (r : RdV) : Nat := if cauT r = 0 then cauD v r.1.2.2.1 else cauT r
def knw (v : JV) (f : CkV) : Bool := decide (plc f (jC v) < (jC v).length ∧ ccmp (cg (jC v) (plc f (jC v))) f = 0)
def cau4 (v : JV) (r : RdV) (sc : Bool) : Nat := if cauP v (mkF v r) sc = 0 ∧ sc = true ∧ knw v (mkF v r) = true ∧ cO (cg (jC v) (plc (mkF v r) (jC v))) = true then 62 else cauP v (mkF v r) sc
def accA (v : JV) (r : RdV) (sc : Bool) (f0 : CkV) : Nat × JV × CkV :=
  if cau2 v r ≠ 0 then (0, jsK (jsX v (cau2 v r)) 5 1, f0)
  else if cau4 v r sc ≠ 0 then (0, jsK (jsX v (cau4 v r sc)) 5 1, mkF v r)
  else if isExp r (jT v) then (if knw v (mkF v r) then (3, jsK (jsC (jsX v 0) ((jC v).eraseIdx (plc (mkF v r) (jC v)))) 2 1, mkF v r) else (0, jsK (jsX v 0) 6 1, mkF v r))
  else (if knw v (mkF v r) then (2, jsK (jsC (jsX v 0) ((jC v).set (plc (mkF v r) (jC v)) (repl (mkF v r) (cg (jC v) (plc (mkF v r) (jC v)))))) 1 1, repl (mkF v r) (cg (jC v) (plc (mkF v r) (jC v)))) else (1, jsK (jsC (jsX v 0) ((jC v).insertIdx (plc (mkF v r) (jC v)) (mkF v r))) 0 1, mkF v r))
theorem cauT_lt (r : RdV) : cauT r < 100 := by
  unfold cauT; split
  · omega
  · split
    · omega
    · split <;> omega
theorem cauD_lt (v : JV) (d : List Int32) : cauD v d < 100 := by
  unfold cauD; split
  · omega
  · split
    · omega
    · split
      · split <;> omega
      · split <;> omega
theorem cauP_lt (v : JV) (f : CkV) (sc : Bool) : cauP v f sc < 100 := by
  unfold cauP
  repeat' split
  all_goals omega
theorem n0_iff {x : Nat} (h : x < 100) : nI x = 0 ↔ x = 0 := nI_eq (b := 0) (by omega) (by omega)
theorem mkF_dom {v : JV} {r : RdV} (hh : isDom (jR v).2.2.1 = true) (hc : cau2 v r = 0) : isDom (cD (mkF v r)) = true ∧ (mkHO v r = false → r.1.2.2.1.length ≤ 30) ∧ r.1.1.length ≤ 16 ∧ r.1.2.1.length ≤ 32 := by
  unfold cau2 at hc
  have hT : cauT r = 0 := by
    by_cases q : cauT r = 0
    · exact q
    · rw [if_neg q] at hc; exact absurd hc q
  rw [if_pos hT] at hc
  have hlen : r.1.1.length ≤ 16 ∧ r.1.2.1.length ≤ 32 := by
    unfold cauT at hT
    split at hT
    · omega
    · split at hT
      · omega
      · split at hT
        · omega
        · rename_i q; omega
  have hdom : mkHO v r = false → isDom r.1.2.2.1 = true := by
    intro hb
    unfold mkHO at hb
    rw [Bool.or_eq_false_iff, decide_eq_false_iff_not, decide_eq_false_iff_not] at hb
    unfold cauD at hc
    rw [if_neg hb.1] at hc
    cases hd : isDom r.1.2.2.1
    · rw [hd, if_pos rfl] at hc; omega
    · rfl
  refine ⟨?_, fun hb => (isDom_iff.mp (hdom hb)).2.1, hlen⟩
  show isDom (if mkHO v r then (jR v).2.2.1 else r.1.2.2.1) = true
  cases hb : mkHO v r
  · exact hdom hb
  · exact hh
theorem Jr.accept99 {A : Hp} {J a : Nat} {v : JV} {f : CkV} {r : RdV} (h : Jr A J v f) (hR : Rd A a r) (hr : okr r) (hl : (jC v).length ≤ 40) {p : Nat} {kn : Bool} (hp : p ≤ (jC v).length) (hk : kn = true → p < (jC v).length) (hx : jX v < 100) : ∃ B, k_X4_accept_99 A J a (nI p) (bI kn) = some (nI (if jX v ≠ 0 then (0, jsK v 5 1, f) else if isExp r (jT v) then (if kn then (3, jsK (jsC v ((jC v).eraseIdx p)) 2 1, f) else (0, jsK v 6 1, f)) else (if kn then (2, jsK (jsC v ((jC v).set p (repl f (cg (jC v) p)))) 1 1, repl f (cg (jC v) p)) else (1, jsK (jsC v ((jC v).insertIdx p f)) 0 1, f)) : Nat × JV × CkV).1, B) ∧ Jr B J (if jX v ≠ 0 then (0, jsK v 5 1, f) else if isExp r (jT v) then (if kn then (3, jsK (jsC v ((jC v).eraseIdx p)) 2 1, f) else (0, jsK v 6 1, f)) else (if kn then (2, jsK (jsC v ((jC v).set p (repl f (cg (jC v) p)))) 1 1, repl f (cg (jC v) p)) else (1, jsK (jsC v ((jC v).insertIdx p f)) 0 1, f)) : Nat × JV × CkV).2.1 (if jX v ≠ 0 then (0, jsK v 5 1, f) else if isExp r (jT v) then (if kn then (3, jsK (jsC v ((jC v).eraseIdx p)) 2 1, f) else (0, jsK v 6 1, f)) else (if kn then (2, jsK (jsC v ((jC v).set p (repl f (cg (jC v) p)))) 1 1, repl f (cg (jC v) p)) else (1, jsK (jsC v ((jC v).insertIdx p f)) 0 1, f)) : Nat × JV × CkV).2.2 ∧ Eqx (jrP J) A B := by
  unfold k_X4_accept_99
  rw [if_pos h.1.1.1, h.2.1.2.1, if_pos hR.1.1, h.2.1.2.2, hR.isExpired hr, Option.bind_some]
  by_cases q : jX v = 0
  · rw [if_pos ((n0_iff hx).mpr q), if_neg (show ¬ jX v ≠ 0 from fun z => z q)]
    cases isExp r (jT v)
    · rw [if_pos (by rfl), if_neg (show ¬ false = true by decide)]
      cases kn
      · rw [if_pos (by rfl), if_neg (show ¬ false = true by decide)]
        obtain ⟨B, e1, e2, e3⟩ := h.create hp hl
        rw [e1]
        exact ⟨B, rfl, e2, e3⟩
      · rw [if_neg (show ¬ bI true = 0 by decide), if_pos rfl]
        obtain ⟨B, e1, e2, e3⟩ := h.replace (hk rfl)
        rw [e1]
        exact ⟨B, rfl, e2, e3⟩
    · rw [if_neg (show ¬ bI true = 0 by decide), if_pos rfl]
      cases kn
      · rw [if_pos (by rfl), if_neg (show ¬ false = true by decide)]
        obtain ⟨B, e1, e2, e3⟩ := h.ignore
        rw [e1]
        exact ⟨B, rfl, e2, e3⟩
      · rw [if_neg (show ¬ bI true = 0 by decide), if_pos rfl]
        obtain ⟨B, e1, e2, e3⟩ := h.expire (hk rfl)
        rw [e1]
        exact ⟨B, rfl, e2, e3⟩
  · rw [if_neg (fun z => q ((n0_iff hx).mp z)), if_pos q]
    obtain ⟨B, e1, e2, e3⟩ := h.reject
    rw [e1]
    exact ⟨B, rfl, e2, e3⟩
theorem Jr.accept {A : Hp} {J a : Nat} {v : JV} {f0 : CkV} {r : RdV} (h : Jr A J v f0) (hR : Rd A a r) (hd : a + 13 ≤ J ∨ J + 409 ≤ a) (hr : okr r) (ho : okl (jC v)) (hl : (jC v).length ≤ 40) (hh : isDom (jR v).2.2.1 = true) (hp : 1 ≤ (jR v).2.2.2.length) (sc : Bool) : ∃ B, f_X4_accept A J a (bI sc) = some (nI (accA v r sc f0).1, B) ∧ Jr B J (accA v r sc f0).2.1 (accA v r sc f0).2.2 ∧ Eqx (jrP J) A B := by
  -- behind the first two causes
  have key : ∀ A' v', Jr A' J v' f0 → Eqx (jrP J) A A' → v' = jsX v (cau2 v r) → ∃ B, k_X4_accept_27 A' J a (bI sc) = some (nI (accA v r sc f0).1, B) ∧ Jr B J (accA v r sc f0).2.1 (accA v r sc f0).2.2 ∧ Eqx (jrP J) A B := by
    intro A' v' h' e' hv
    have hR' := hR.eq e' (fun q z w => by have := z.1; have := z.2; have := w.1; have := w.2; omega)
    unfold k_X4_accept_27
    rw [if_pos h'.1.1.1, h'.2.1.2.1]
    subst hv
    have hc100 : cau2 v r < 100 := by unfold cau2; split; exact cauD_lt _ _; exact cauT_lt _
    by_cases q : cau2 v r = 0
    · rw [if_pos (show nI (jX (jsX v (cau2 v r))) = 0 from (n0_iff hc100).mpr q)]
      obtain ⟨m1, m2, m3, m4⟩ := mkF_dom hh q
      obtain ⟨B, e1, e2, e3, e4⟩ := h'.shape hR' hd hr m3 m4 m2 hp
      have hmk : mkF (jsX v (cau2 v r)) r = mkF v r := rfl
      rw [hmk] at e2
      obtain ⟨ad, hC⟩ := e2.2.2.2.1
      have hC : JC B J ad (jC v) := hC
      have hpl := plc_le (mkF v r) (jC v)
      rw [e1, Option.bind_some, if_pos e2.1.1.1, hC.place e2.1 e2.2.2.2.2 ho m1, Option.bind_some, hC.isAt e2.1 e2.2.2.2.2 ho m1 hpl, Option.bind_some, e2.causeInProperties ho hr.2.1 sc, Option.bind_some]
      have hcP : cauP (jsX v (cau2 v r)) (mkF v r) sc = cauP v (mkF v r) sc := rfl
      rw [hcP]
      obtain ⟨g1, g2⟩ := e2.setX (cauP v (mkF v r) sc)
      have hgI1 : hgI (hsI B 139 J 0 (nI (cauP v (mkF v r) sc))) 139 J 0 = nI (cauP v (mkF v r) sc) := by rw [hgI_sI, if_pos ⟨rfl, rfl, rfl⟩]
      have hR1 : Rd (hsI B 139 J 0 (nI (cauP v (mkF v r) sc))) a r := e3.eq g2 (fun q z w => by have := z.1; have := z.2; have := w.1; have := w.2; omega)
      rw [hgI1]
      have hkn : decide (plc (mkF v r) (jC v) < (jC v).length ∧ ccmp (cg (jC v) (plc (mkF v r) (jC v))) (mkF v r) = 0) = knw v (mkF v r) := rfl
      rw [hkn]
      have hknl : knw v (mkF v r) = true → plc (mkF v r) (jC v) < (jC v).length := fun z => (of_decide_eq_true z).1
      have r0 : accA v r sc f0 = (if cau4 v r sc ≠ 0 then (0, jsK (jsX v (cau4 v r sc)) 5 1, mkF v r) else if isExp r (jT v) then (if knw v (mkF v r) then (3, jsK (jsC (jsX v 0) ((jC v).eraseIdx (plc (mkF v r) (jC v)))) 2 1, mkF v r) else (0, jsK (jsX v 0) 6 1, mkF v r)) else (if knw v (mkF v r) then (2, jsK (jsC (jsX v 0) ((jC v).set (plc (mkF v r) (jC v)) (repl (mkF v r) (cg (jC v) (plc (mkF v r) (jC v)))))) 1 1, repl (mkF v r) (cg (jC v) (plc (mkF v r) (jC v)))) else (1, jsK (jsC (jsX v 0) ((jC v).insertIdx (plc (mkF v r) (jC v)) (mkF v r))) 0 1, mkF v r))) := by
        unfold accA
        rw [if_neg (show ¬ cau2 v r ≠ 0 from fun z => z q)]
      -- the end, with the cause c
      have fin : ∀ A2 c, Jr A2 J (jsX v c) (mkF v r) → Rd A2 a r → Eqx (jrP J) A A2 → c < 100 → cau4 v r sc = c → ∃ B, k_X4_accept_99 A2 J a (nI (plc (mkF v r) (jC v))) (bI (knw v (mkF v r))) = some (nI (accA v r sc f0).1, B) ∧ Jr B J (accA v r sc f0).2.1 (accA v r sc f0).2.2 ∧ Eqx (jrP J) A B := by
        intro A2 c hj2 hr2 he2 hc hcc
        obtain ⟨C, z1, z2, z3⟩ := hj2.accept99 hr2 hr hl (p := plc (mkF v r) (jC v)) (kn := knw v (mkF v r)) hpl hknl hc
        have e9 : accA v r sc f0 = (if jX (jsX v c) ≠ 0 then (0, jsK (jsX v c) 5 1, mkF v r) else if isExp r (jT (jsX v c)) then (if knw v (mkF v r) then (3, jsK (jsC (jsX v c) ((jC (jsX v c)).eraseIdx (plc (mkF v r) (jC v)))) 2 1, mkF v r) else (0, jsK (jsX v c) 6 1, mkF v r)) else (if knw v (mkF v r) then (2, jsK (jsC (jsX v c) ((jC (jsX v c)).set (plc (mkF v r) (jC v)) (repl (mkF v r) (cg (jC (jsX v c)) (plc (mkF v r) (jC v)))))) 1 1, repl (mkF v r) (cg (jC (jsX v c)) (plc (mkF v r) (jC v)))) else (1, jsK (jsC (jsX v c) ((jC (jsX v c)).insertIdx (plc (mkF v r) (jC v)) (mkF v r))) 0 1, mkF v r))) := by
          rw [r0, hcc]
          by_cases qc : c = 0
          · subst qc; rfl
          · rw [if_pos qc, if_pos (show jX (jsX v c) ≠ 0 from qc)]
        rw [e9]
        exact ⟨C, z1, z2, he2.tr z3⟩
      have eB := e'.tr (e4.tr g2)
      have hlt := cauP_lt v (mkF v r) sc
      have g1 : Jr (hsI B 139 J 0 (nI (cauP v (mkF v r) sc))) J (jsX v (cauP v (mkF v r) sc)) (mkF v r) := g1
      by_cases c0 : cauP v (mkF v r) sc = 0
      · rw [if_pos ((n0_iff hlt).mpr c0)]
        cases hsc : sc
        · rw [if_pos (by rfl)]
          subst hsc
          exact fin _ _ g1 hR1 eB hlt (by unfold cau4; rw [if_neg (fun z => by cases z.2.1)])
        · rw [if_neg (show ¬ bI true = 0 by decide)]
          subst hsc
          cases hb : knw v (mkF v r)
          · rw [if_pos (by rfl)]
            have := fin _ _ g1 hR1 eB hlt (by unfold cau4; rw [if_neg (fun z => by rw [hb] at z; cases z.2.2.1)])
            rw [hb] at this
            exact this
          · rw [if_neg (show ¬ bI true = 0 by decide)]
            have hS1 := g1.1
            obtain ⟨ad1, hC1⟩ := g1.2.2.2.1
            have hpl' := hknl hb
            have hck := hC1.2.2.2.2.2.1 _ hpl'
            have cl : (nI (plc (mkF v r) (jC v))).toNatClampNeg = plc (mkF v r) (jC v) := nI_clamp (by omega)
            have c1' : hgR (hsI B 139 J 0 (nI (cauP v (mkF v r) true))) 1037 (J + 1) (nI (plc (mkF v r) (jC v))).toNatClampNeg = ad1 (plc (mkF v r) (jC v)) := by rw [cl]; exact hC1.1 _ (by omega)
            show ∃ B_1, (if (hsh (hsI B 139 J 0 (nI (cauP v (mkF v r) true))) (hgR (hsI B 139 J 0 (nI (cauP v (mkF v r) true))) 128 J 0)).1 = 13 then if wix (nI (plc (mkF v r) (jC v))) (hsh (hsI B 139 J 0 (nI (cauP v (mkF v r) true))) (hgR (hsI B 139 J 0 (nI (cauP v (mkF v r) true))) 128 J 0)).2 then _ else none else none) = some (_, B_1) ∧ _
            rw [hS1.1.2.1, hS1.2.1, if_pos rfl, if_pos ((nI_wix (by omega)).mpr (show plc (mkF v r) (jC v) < 41 by omega))]
            show ∃ B_1, (if (hsh (hsI B 139 J 0 (nI (cauP v (mkF v r) true))) (hgR (hsI B 139 J 0 (nI (cauP v (mkF v r) true))) 1037 (J + 1) (nI (plc (mkF v r) (jC v))).toNatClampNeg)).1 = 2 then (if hgI (hsI B 139 J 0 (nI (cauP v (mkF v r) true))) 74 (hgR (hsI B 139 J 0 (nI (cauP v (mkF v r) true))) 1037 (J + 1) (nI (plc (mkF v r) (jC v))).toNatClampNeg) 0 = 0 then k_X4_accept_99 (hsI B 139 J 0 (nI (cauP v (mkF v r) true))) J a (nI (plc (mkF v r) (jC v))) (bI true) else k_X4_accept_99 (hsI (hsI B 139 J 0 (nI (cauP v (mkF v r) true))) 139 J 0 62) J a (nI (plc (mkF v r) (jC v))) (bI true)) else none) = some (_, B_1) ∧ _
            rw [c1', if_pos hck.1.1, hck.2.1.2.2.2.2.1]
            cases hoo : cO (cg (jC v) (plc (mkF v r) (jC v)))
            · rw [if_pos (show bI (cO (cg (jC (jsX v (cauP v (mkF v r) true))) (plc (mkF v r) (jC v)))) = 0 by rw [show cO (cg (jC (jsX v (cauP v (mkF v r) true))) (plc (mkF v r) (jC v))) = false from hoo]; rfl)]
              have := fin _ _ g1 hR1 eB hlt (by unfold cau4; rw [if_neg (fun z => by rw [hoo] at z; cases z.2.2.2)])
              rw [hb] at this
              exact this
            · rw [if_neg (show ¬ bI (cO (cg (jC (jsX v (cauP v (mkF v r) true))) (plc (mkF v r) (jC v)))) = 0 by rw [show cO (cg (jC (jsX v (cauP v (mkF v r) true))) (plc (mkF v r) (jC v))) = true from hoo]; decide)]
              obtain ⟨i1, i2⟩ := g1.setX 62
              have := fin _ 62 i1 (hR1.eq i2 (fun q z w => by have := z.1; have := z.2; have := w.1; have := w.2; omega)) (eB.tr i2) (by omega) (by unfold cau4; rw [if_pos ⟨c0, rfl, hb, hoo⟩])
              rw [hb] at this
              exact this
      · rw [if_neg (fun z => c0 ((n0_iff hlt).mp z))]
        exact fin _ _ g1 hR1 eB hlt (by unfold cau4; rw [if_neg (fun z => c0 z.1)])
    · rw [if_neg (show ¬ nI (jX (jsX v (cau2 v r))) = 0 from fun z => q ((n0_iff hc100).mp z))]
      obtain ⟨B, e1, e2, e3⟩ := h'.reject
      rw [e1]
      have r0 : accA v r sc f0 = (0, jsK (jsX v (cau2 v r)) 5 1, f0) := by
        unfold accA
        rw [if_pos q]
      rw [r0]
      exact ⟨B, rfl, e2, e'.tr e3⟩
  unfold f_X4_accept
  rw [hR.causeInText, Option.bind_some, if_pos h.1.1.1]
  obtain ⟨g1, g2⟩ := h.setX (cauT r)
  have hgI1 : hgI (hsI A 139 J 0 (nI (cauT r))) 139 J 0 = nI (cauT r) := by rw [hgI_sI, if_pos ⟨rfl, rfl, rfl⟩]
  rw [hgI1]
  have hR1 : Rd (hsI A 139 J 0 (nI (cauT r))) a r := hR.eq g2 (fun q z w => by have := z.1; have := z.2; have := w.1; have := w.2; omega)
  by_cases q : cauT r = 0
  · rw [if_pos ((n0_iff (cauT_lt r)).mpr q), if_pos hR1.1.1, hR1.1.2.2.2.1, Jr.causeInDomain g1.1 g1.2.2.1 hR1.2.2.1.2.2.1 (by have := hR1.2.2.1.2.2.1.2.2.1; omega), Option.bind_some]
    obtain ⟨i1, i2⟩ := g1.setX (cauD (jsX v (cauT r)) r.1.2.2.1)
    refine key _ _ i1 (g2.tr i2) ?_
    unfold cau2
    rw [if_pos q]
    rfl
  · rw [if_neg (fun z => q ((n0_iff (cauT_lt r)).mp z))]
    refine key _ _ g1 g2 ?_
    unfold cau2
    rw [if_neg q]
