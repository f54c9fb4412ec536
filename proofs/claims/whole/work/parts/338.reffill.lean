/-! the reference: its state; filling the new cookie; expiry -/
def CkM (μ : Nat → Int64) (c : Nat) (v : CkV) : Prop :=
  (μ c = lN (cN v).length ∧ μ (c + 1) = lN (cV v).length ∧ μ (c + 2) = lN (cD v).length ∧ μ (c + 3) = lN (cP v).length) ∧
  (μ (c + 4) = cE v ∧ μ (c + 5) = cC v ∧ μ (c + 6) = cA v ∧ μ (c + 7) = lN (cS v)) ∧
  (μ (c + 8) = lB (cH v) ∧ μ (c + 9) = lB (cX v) ∧ μ (c + 10) = lB (cO v) ∧ μ (c + 11) = lN (cL v) ∧ μ (c + 12) = lN (cR v)) ∧
  (Sg μ (c + 14) (cN v) ∧ Sg μ (c + 30) (cV v) ∧ Sg μ (c + 62) (cD v) ∧ Sg μ (c + 92) (cP v)) ∧
  (cN v).length ≤ 16 ∧ (cV v).length ≤ 32 ∧ (cD v).length ≤ 30 ∧ (cP v).length ≤ 40
theorem CkM.move {μ ν : Nat → Int64} {c d : Nat} {v : CkV} (h : CkM μ c v) (e : ∀ i, i < 140 → ν (d + i) = μ (c + i)) : CkM ν d v := by
  obtain ⟨⟨a1, a2, a3, a4⟩, ⟨b1, b2, b3, b4⟩, ⟨c1, c2, c3, c4, c5⟩, ⟨d1, d2, d3, d4⟩, l1, l2, l3, l4⟩ := h
  have sg : ∀ (o : Nat) (s : List Int32), o + s.length ≤ 140 → Sg μ (c + o) s → Sg ν (d + o) s := fun o s ho hs i hi => by
    rw [Nat.add_assoc, e (o + i) (by omega), ← Nat.add_assoc]; exact hs i hi
  exact ⟨⟨(e 0 (by omega)).trans a1, (e 1 (by omega)).trans a2, (e 2 (by omega)).trans a3, (e 3 (by omega)).trans a4⟩, ⟨(e 4 (by omega)).trans b1, (e 5 (by omega)).trans b2, (e 6 (by omega)).trans b3, (e 7 (by omega)).trans b4⟩, ⟨(e 8 (by omega)).trans c1, (e 9 (by omega)).trans c2, (e 10 (by omega)).trans c3, (e 11 (by omega)).trans c4, (e 12 (by omega)).trans c5⟩, ⟨sg 14 _ (by omega) d1, sg 30 _ (by omega) d2, sg 62 _ (by omega) d3, sg 92 _ (by omega) d4⟩, l1, l2, l3, l4⟩
theorem CkM.congr {μ ν : Nat → Int64} {c : Nat} {v : CkV} (h : CkM μ c v) (e : ∀ k, c ≤ k → k < c + 140 → ν k = μ k) : CkM ν c v := h.move (fun i hi => e _ (by omega) (by omega))
/-- the state v but for its cookies, with the cookies ms and the next serial number n -/
def JM (μ : Nat → Int64) (v : JV) (ms : List CkV) (n : Nat) : Prop :=
  ((μ 0 = jT v ∧ μ 1 = lN n ∧ μ 2 = lN (jL v 0) ∧ μ 3 = lN (jL v 1)) ∧ (μ 4 = lN (jP v) ∧ μ 5 = lN ms.length ∧ μ 7 = lN (jX v) ∧ μ 8 = lN (jH v).length)) ∧ (∀ i, i < 7 → μ (10 + i) = lN (jK v i)) ∧ SuM μ (jU v) ∧ AdM μ 20 (jG v) ∧ AdM μ 100 (jR v) ∧ (Sg μ 380 (jH v) ∧ (jH v).length ≤ 2091) ∧ (∀ i, i < ms.length → CkM μ (2500 + 140 * i) (cg ms i)) ∧ ms.length ≤ 41
theorem JM.congr {μ ν : Nat → Int64} {v : JV} {ms : List CkV} {n : Nat} (h : JM μ v ms n) (e : ∀ k, k < 8400 → ν k = μ k) : JM ν v ms n := by
  obtain ⟨⟨⟨a0, a1, a2, a3⟩, a4, a5, a7, a8⟩, b, c, d1, d2, ⟨f1, f2⟩, hc, hl⟩ := h
  exact ⟨⟨⟨(e 0 (by omega)).trans a0, (e 1 (by omega)).trans a1, (e 2 (by omega)).trans a2, (e 3 (by omega)).trans a3⟩, (e 4 (by omega)).trans a4, (e 5 (by omega)).trans a5, (e 7 (by omega)).trans a7, (e 8 (by omega)).trans a8⟩, fun i hi => (e _ (by omega)).trans (b i hi), c.congr (e 6 (by omega)) (fun k h1 h2 => e k (by omega)), d1.congr (fun k h1 h2 => e k (by omega)), d2.congr (fun k h1 h2 => e k (by omega)), ⟨f1.congr (fun k h1 h2 => e k (by omega)), f2⟩, fun i hi => (hc i hi).congr (fun k h1 h2 => e k (by omega)), hl⟩
section
variable {A : Hp} {M : Nat} {t : List Int32} {r : RdV}
theorem NvM.eq {B : Hp} (h : NvM A M t r) (e : Eqx (oP M) A B) (hk : ∀ k, 8400 ≤ k → k < 8600 → mu B M k = mu A M k) (ht : t.length ≤ 160) : NvM B M t r := by
  have hne : ¬ oP M M := show ¬ M = M + 1 by omega
  obtain ⟨h1, ⟨c, c1, c2, c3, c4⟩, d, d1, d2, d3, d4⟩ := h
  exact ⟨by rw [e.I hne]; exact h1, ⟨c, by rw [e.I hne]; exact c1, by rw [e.I hne]; exact c2, c3, c4.congr (fun k h1 h2 => hk k (by omega) (by omega))⟩, d, by rw [e.I hne]; exact d1, by rw [e.I hne]; exact d2, d3, d4.congr (fun k h1 h2 => hk k (by omega) (by omega))⟩
def F225 (A B : Hp) (M : Nat) (r : RdV) : Prop := Eqx (oP M) A B ∧ (∀ k, k < 8600 ∨ (8602 ≤ k ∧ k < 8614) ∨ 8662 ≤ k → mu B M k = mu A M k) ∧ mu B M 8600 = lN r.1.1.length ∧ mu B M 8601 = lN r.1.2.1.length ∧ (r.1.1.length ≤ 16 → r.1.2.1.length ≤ 32 → Sg (mu B M) 8614 r.1.1 ∧ Sg (mu B M) 8630 r.1.2.1)
theorem Ms.fill225 (h : Ms A M) (x : Tx A M t) (hn : NvM A M t r) : ∃ B, k_X9_fillsCookie_225 A M = some B ∧ F225 A B M r := by
  have hx2 := x.2.1
  obtain ⟨n1, ⟨c, c1, c2, c3, c4⟩, d, d1, d2, d3, d4⟩ := hn
  have h1 := h.set (i := 8600) (x := lN r.1.1.length)
  have h2 := h1.set (i := 8601) (x := lN r.1.2.1.length)
  have e2 : Eqx (oP M) A (hsL (hsL A 1035 (M + 1) 8600 (lN r.1.1.length)) 1035 (M + 1) 8601 (lN r.1.2.1.length)) := Eqx.tr (Eqx.sL rfl) (Eqx.sL rfl)
  have m2 : ∀ k, mu (hsL (hsL A 1035 (M + 1) 8600 (lN r.1.1.length)) 1035 (M + 1) 8601 (lN r.1.2.1.length)) M k = if k = 8601 then lN r.1.2.1.length else if k = 8600 then lN r.1.1.length else mu A M k := fun k => by rw [mu_set, mu_set]
  unfold k_X9_fillsCookie_225
  rw [show (8600 : Int32) = nI 8600 from rfl, show (8601 : Int32) = nI 8601 from rfl, h.gd (by omega), h.2.1, nI_clamp (by omega), c2, nI_l (by omega), if_pos h1.a11, if_pos (h1.wx (by omega)), h1.2.1, nI_clamp (by omega), show hgI (hsL A 1035 (M + 1) 8600 (lN r.1.1.length)) 485 M 0 = nI r.1.2.1.length from d2, nI_l (by omega)]
  have c1' : hgI (hsL (hsL A 1035 (M + 1) 8600 (lN r.1.1.length)) 1035 (M + 1) 8601 (lN r.1.2.1.length)) 482 M 0 = nI c := c1
  have c2' : hgI (hsL (hsL A 1035 (M + 1) 8600 (lN r.1.1.length)) 1035 (M + 1) 8601 (lN r.1.2.1.length)) 483 M 0 = nI r.1.1.length := c2
  have d1' : hgI (hsL (hsL A 1035 (M + 1) 8600 (lN r.1.1.length)) 1035 (M + 1) 8601 (lN r.1.2.1.length)) 484 M 0 = nI d := d1
  have d2' : hgI (hsL (hsL A 1035 (M + 1) 8600 (lN r.1.1.length)) 1035 (M + 1) 8601 (lN r.1.2.1.length)) 485 M 0 = nI r.1.2.1.length := d2
  generalize hsL (hsL A 1035 (M + 1) 8600 (lN r.1.1.length)) 1035 (M + 1) 8601 (lN r.1.2.1.length) = C at *
  rw [c1', c2', d2']
  have noc : (16 < r.1.1.length ∨ 32 < r.1.2.1.length) → F225 A C M r := fun z => ⟨e2, fun k hk => by rw [m2, if_neg (by omega), if_neg (by omega)], by rw [m2, if_neg (by omega), if_pos rfl], by rw [m2, if_pos rfl], fun z1 z2 => by omega⟩
  by_cases q1 : 16 < r.1.1.length
  · refine ⟨C, ?_, noc (Or.inl q1)⟩
    rw [if_pos (show (16 : Int32) < nI r.1.1.length from nI_lt (a := 16) q1 (by omega))]
  by_cases q2 : 32 < r.1.2.1.length
  · refine ⟨C, ?_, noc (Or.inr q2)⟩
    rw [if_neg (show ¬ (16 : Int32) < nI r.1.1.length from nI_nlt (b := r.1.1.length) (a := 16) (by omega) (by omega)), if_pos (show (32 : Int32) < nI r.1.2.1.length from nI_lt (a := 32) q2 (by omega))]
  obtain ⟨D, f1, f2, f3⟩ := h2.copies (f := 8400 + c) (n := r.1.1.length) (t := 8614) (by omega) (by omega) (by omega)
  have hD := h2.eq f2 (show ¬ M = M + 1 by omega)
  obtain ⟨E, g1, g2, g3⟩ := hD.copies (f := 8400 + d) (n := r.1.2.1.length) (t := 8630) (by omega) (by omega) (by omega)
  have hne : ¬ oP M M := show ¬ M = M + 1 by omega
  refine ⟨E, ?_, (e2.tr f2).tr g2, fun k hk => ?_, ?_, ?_, fun z1 z2 => ⟨fun i hi => ?_, fun i hi => ?_⟩⟩
  · rw [if_neg (show ¬ (16 : Int32) < nI r.1.1.length from nI_nlt (b := r.1.1.length) (a := 16) (by omega) (by omega)), if_neg (show ¬ (32 : Int32) < nI r.1.2.1.length from nI_nlt (b := r.1.2.1.length) (a := 32) (by omega) (by omega)), show (8400 : Int32) + nI c = nI (8400 + c) from nI_add 8400 c, show (8614 : Int32) = nI 8614 from rfl, f1, Option.bind_some, if_pos hD.1, f2.I hne, f2.I hne, d1', d2', show (8400 : Int32) + nI d = nI (8400 + d) from nI_add 8400 d, show (8630 : Int32) = nI 8630 from rfl, g1, Option.bind_some]
  · rw [g3, if_neg (by omega), f3, if_neg (by omega), m2, if_neg (by omega), if_neg (by omega)]
  · rw [g3, if_neg (by omega), f3, if_neg (by omega), m2, if_neg (by omega), if_pos rfl]
  · rw [g3, if_neg (by omega), f3, if_neg (by omega), m2, if_pos rfl]
  · rw [g3, if_neg (by omega), f3, if_pos (by omega), m2, if_neg (by omega), if_neg (by omega), show 8400 + c + (8614 + i - 8614) = 8400 + c + i by omega]
    exact c4 i hi
  · rw [g3, if_pos (by omega), f3, if_neg (by omega), m2, if_neg (by omega), if_neg (by omega), show 8400 + d + (8630 + i - 8630) = 8400 + d + i by omega]
    exact d4 i hi
def mkP (q : AdV) (r : RdV) : List Int32 := if r.1.2.2.2 = [] then dfP q.2.2.2 else r.1.2.2.2
def F112 (A B : Hp) (M : Nat) (q : AdV) (r : RdV) : Prop := Eqx (oP M) A B ∧ (∀ k, k < 8600 ∨ k = 8602 ∨ (8604 ≤ k ∧ k < 8614) ∨ (8662 ≤ k ∧ k < 8692) ∨ 8732 ≤ k → mu B M k = mu A M k) ∧ mu B M 8600 = lN r.1.1.length ∧ mu B M 8601 = lN r.1.2.1.length ∧ (r.1.1.length ≤ 16 → r.1.2.1.length ≤ 32 → Sg (mu B M) 8614 r.1.1 ∧ Sg (mu B M) 8630 r.1.2.1) ∧ mu B M 8603 = lN (mkP q r).length ∧ Sg (mu B M) 8692 (mkP q r)
theorem F225.f112 {B C : Hp} {q : AdV} (h : F225 B C M r) (e : Eqx (oP M) A B) (hk : ∀ k, k < 8600 ∨ k = 8602 ∨ (8604 ≤ k ∧ k < 8614) ∨ (8662 ≤ k ∧ k < 8692) ∨ 8732 ≤ k → mu B M k = mu A M k) (h1 : mu B M 8603 = lN (mkP q r).length) (h2 : Sg (mu B M) 8692 (mkP q r)) : F112 A C M q r := by
  obtain ⟨a1, a2, a3, a4, a5⟩ := h
  exact ⟨e.tr a1, fun k z => by rw [a2 k (by omega)]; exact hk k z, a3, a4, a5, by rw [a2 _ (by omega)]; exact h1, h2.congr (fun k z1 z2 => a2 k (by omega))⟩
theorem dfP_len {p : List Int32} (hp : p.length ≤ 40) : (dfP p).length ≤ 40 ∧ 1 ≤ (dfP p).length := by
  unfold dfP
  have := lsl_le p (p.length - 1)
  split
  · exact ⟨by decide, by decide⟩
  · rw [List.length_take]; omega
theorem Ms.fill112 (h : Ms A M) (x : Tx A M t) (hn : NvM A M t r) (hp : PaM A M t r) {q : AdV} (hq : AdM (mu A M) 100 q) (hq1 : 1 ≤ q.2.2.2.length) (hq0 : g q.2.2.2 0 = 47) : ∃ B, k_X9_fillsCookie_112 A M = some B ∧ F112 A B M q r := by
  have hx2 := x.2.1
  have hne : ¬ oP M M := show ¬ M = M + 1 by omega
  unfold k_X9_fillsCookie_112
  rw [if_pos h.1, hp.1]
  by_cases q0 : r.1.2.2.2 = []
  · rw [decide_eq_false (fun z => z q0), if_pos (by rfl), if_pos h.a11, show (103 : Int32) = nI 103 from rfl, if_pos (h.wx (by omega)), h.vl (by omega), show mu A M 103 = _ from hq.1.2.2.2, lN_i, show nI q.2.2.2.length - (1 : Int32) = nI (q.2.2.2.length - 1) from pk_sub (b := 1) hq1]
    have hpl := hq.2.2.2.2
    have hsP := hq.2.2.1
    have hmk : mkP q r = dfP q.2.2.2 := if_pos q0
    have L : ∀ k fu, k < q.2.2.2.length → k < fu → lsl q.2.2.2 k = lsl q.2.2.2 (q.2.2.2.length - 1) → ∃ B, k_X9_fillsCookie_165 M fu A (nI k) = some B ∧ F112 A B M q r := by
      intro k
      have F : ∀ l, l < q.2.2.2.length → g q.2.2.2 l = 47 → l = lsl q.2.2.2 (q.2.2.2.length - 1) → ∃ B, (if nI l = (0 : Int32) then k_X9_fillsCookie_205 A M (nI l) (hgR A 448 M 0) (8603 : Int32) (1 : Int64) else k_X9_fillsCookie_205 A M (nI l) (hgR A 448 M 0) (8603 : Int32) (nI l).toInt64) = some B ∧ F112 A B M q r := by
        intro l hl hg hll
        have hlen : (mkP q r).length = if l = 0 then 1 else l := by
          rw [hmk]; unfold dfP; rw [← hll]
          split
          · rfl
          · rw [List.length_take]; omega
        have e1 : Eqx (oP M) A (hsL A 1035 (M + 1) 8603 (lN (mkP q r).length)) := Eqx.sL rfl
        have h1 := h.set (i := 8603) (x := lN (mkP q r).length)
        obtain ⟨D, f1, f2, f3⟩ := h1.copies (f := 134) (n := (mkP q r).length) (t := 8692) (by rw [hlen]; split <;> omega) (by rw [hlen]; split <;> omega) (by rw [hlen]; split <;> omega)
        have hD := h1.eq f2 hne
        have eD : Eqx (oP M) A D := e1.tr f2
        have mD : ∀ k, k < 8600 ∨ k = 8602 ∨ (8604 ≤ k ∧ k < 8614) ∨ (8662 ≤ k ∧ k < 8692) ∨ 8732 ≤ k → mu D M k = mu A M k := fun k z => by
          rw [f3, if_neg (by rw [hlen]; split <;> omega), mu_set, if_neg (by omega)]
        obtain ⟨B, b1, b2⟩ := hD.fill225 (x.eq eD (fun k z1 z2 => mD k (by omega))) (hn.eq eD (fun k z1 z2 => mD k (by omega)) hx2)
        have fin : k_X9_fillsCookie_205 A M (nI l) (M + 1) (8603 : Int32) (lN (mkP q r).length) = some B := by
          unfold k_X9_fillsCookie_205 k_X9_fillsCookie_219
          rw [h.2.2, if_pos rfl, show (8603 : Int32) = nI 8603 from rfl, if_pos ((nI_wix (by omega)).mpr (show 8603 < 9000 by omega)), nI_clamp (by omega), if_pos h1.1, show (8692 : Int32) = nI 8692 from rfl, show (134 : Int32) = nI 134 from rfl]
          by_cases hz : l = 0
          · rw [if_pos (show nI l = (0 : Int32) by rw [hz]; rfl), show (1 : Int32) = nI (mkP q r).length from (by rw [hlen, if_pos hz]; rfl), f1, Option.bind_some, b1]
          · rw [if_neg (nI_ne0 (by omega) (by omega)), if_pos h1.1, show nI l = nI (mkP q r).length from (by rw [hlen, if_neg hz]), f1, Option.bind_some, b1]
        refine ⟨B, ?_, b2.f112 eD mD ?_ ?_⟩
        · rw [h.2.1]
          by_cases hz : l = 0
          · rw [if_pos (show nI l = (0 : Int32) by rw [hz]; rfl), show (1 : Int64) = lN (mkP q r).length from (by rw [hlen, if_pos hz]; rfl)]; exact fin
          · rw [if_neg (nI_ne0 (by omega) (by omega)), nI_l (by omega), show lN l = lN (mkP q r).length from (by rw [hlen, if_neg hz])]; exact fin
        · rw [f3, if_neg (by omega), mu_set, if_pos rfl]
        · intro i hi
          rw [f3, if_pos (by omega), mu_set, if_neg (by rw [hlen] at hi; split at hi <;> omega), show 134 + (8692 + i - 8692) = 100 + 34 + i by omega, show mu A M (100 + 34 + i) = _ from hsP i (by rw [hlen] at hi; split at hi <;> omega)]
          rw [hlen] at hi
          rw [hmk]; unfold dfP; rw [← hll]
          by_cases hz : l = 0
          · rw [if_pos hz] at hi ⊢
            have : i = 0 := by omega
            rw [this, hq0]; rfl
          · rw [if_neg hz] at hi ⊢
            simp only [g, List.getD_eq_getElem?_getD]
            rw [List.getElem?_take_of_lt hi]
      induction k with
      | zero =>
        intro fu h1 h2 h3
        obtain ⟨fu, rfl⟩ : ∃ f, fu = f + 1 := ⟨fu - 1, by omega⟩
        show ∃ B, k_X9_fillsCookie_165s M _ _ _ = some B ∧ _
        unfold k_X9_fillsCookie_165s
        rw [show (134 : Int32) + nI 0 = nI 134 from rfl, h.gd (by omega), h.vl (by omega), show mu A M 134 = _ from hsP 0 h1, if_pos (show (g q.2.2.2 0).toInt64 = (47 : Int64) from (cq 47 (by decide)).mpr hq0)]
        exact F 0 h1 hq0 h3
      | succ k ih =>
        intro fu h1 h2 h3
        obtain ⟨fu, rfl⟩ : ∃ f, fu = f + 1 := ⟨fu - 1, by omega⟩
        show ∃ B, k_X9_fillsCookie_165s M _ _ _ = some B ∧ _
        unfold k_X9_fillsCookie_165s
        have h3' : (if g q.2.2.2 (k + 1) = 47 then k + 1 else lsl q.2.2.2 k) = lsl q.2.2.2 (q.2.2.2.length - 1) := h3
        rw [show (134 : Int32) + nI (k + 1) = nI (134 + (k + 1)) from nI_add 134 _, h.gd (by omega), h.vl (by omega), show mu A M (134 + (k + 1)) = _ from hsP (k + 1) h1, pk_m1]
        by_cases hg : g q.2.2.2 (k + 1) = 47
        · rw [if_pos (show (g q.2.2.2 (k + 1)).toInt64 = (47 : Int64) from (cq 47 (by decide)).mpr hg)]
          rw [if_pos hg] at h3'
          exact F (k + 1) h1 hg h3'
        · rw [if_neg (show ¬ (g q.2.2.2 (k + 1)).toInt64 = (47 : Int64) from fun z => hg ((cq 47 (by decide)).mp z))]
          rw [if_neg hg] at h3'
          exact ih fu (by omega) (by omega) h3'
    exact L (q.2.2.2.length - 1) FU (by omega) (by unfold FU; omega) rfl
  · obtain ⟨c, c1, c2, c3, c4⟩ := hp.2.1 q0
    have hpl := hp.2.2
    have hmk : mkP q r = r.1.2.2.2 := if_neg q0
    have e1 : Eqx (oP M) A (hsL A 1035 (M + 1) 8603 (lN r.1.2.2.2.length)) := Eqx.sL rfl
    have h1 := h.set (i := 8603) (x := lN r.1.2.2.2.length)
    obtain ⟨D, f1, f2, f3⟩ := h1.copies (f := 8400 + c) (n := r.1.2.2.2.length) (t := 8692) (by omega) (by omega) (by omega)
    have hD := h1.eq f2 hne
    have eD : Eqx (oP M) A D := e1.tr f2
    have mD : ∀ k, k < 8600 ∨ k = 8602 ∨ (8604 ≤ k ∧ k < 8614) ∨ (8662 ≤ k ∧ k < 8692) ∨ 8732 ≤ k → mu D M k = mu A M k := fun k z => by
      rw [f3, if_neg (by omega), mu_set, if_neg (by omega)]
    obtain ⟨B, b1, b2⟩ := hD.fill225 (x.eq eD (fun k z1 z2 => mD k (by omega))) (hn.eq eD (fun k z1 z2 => mD k (by omega)) hx2)
    refine ⟨B, ?_, b2.f112 eD mD ?_ ?_⟩
    · simp only [hgI_sL]
      rw [decide_eq_true q0, if_neg (by decide), if_pos h.a11, show (8603 : Int32) = nI 8603 from rfl, if_pos (h.wx (by omega)), h.2.1, nI_clamp (by omega), c1, c2, nI_l (by omega), show (8400 : Int32) + nI c = nI (8400 + c) from nI_add 8400 c, show (8692 : Int32) = nI 8692 from rfl, f1, Option.bind_some, b1]
    · rw [f3, if_neg (by omega), mu_set, if_pos rfl, hmk]
    · rw [hmk]
      intro i hi
      rw [f3, if_pos (by omega), mu_set, if_neg (by omega), show 8400 + c + (8692 + i - 8692) = 8400 + c + i by omega]
      exact c4 i hi
def mkO (us : SL) (r : RdV) : Bool := decide (r.1.2.2.1 = []) || (isDom r.1.2.2.1 && decide (pubS us r.1.2.2.1 = 0))
def mkD (us : SL) (q : AdV) (r : RdV) : List Int32 := if mkO us r then q.2.2.1 else r.1.2.2.1
/-- the new cookie's cells -/
def FiM (A B : Hp) (M : Nat) (us : SL) (q : AdV) (r : RdV) : Prop := Eqx (oP M) A B ∧ (∀ k, k < 8600 ∨ (8604 ≤ k ∧ k ≤ 8607) ∨ (8609 ≤ k ∧ k < 8614) ∨ 8732 ≤ k → mu B M k = mu A M k) ∧ (mu B M 8600 = lN r.1.1.length ∧ mu B M 8601 = lN r.1.2.1.length ∧ mu B M 8602 = lN (mkD us q r).length ∧ mu B M 8603 = lN (mkP q r).length ∧ mu B M 8608 = lB (mkO us r)) ∧ (r.1.1.length ≤ 16 → r.1.2.1.length ≤ 32 → Sg (mu B M) 8614 r.1.1 ∧ Sg (mu B M) 8630 r.1.2.1) ∧ Sg (mu B M) 8692 (mkP q r) ∧ ((mkD us q r).length ≤ 30 → Sg (mu B M) 8662 (mkD us q r))
theorem Ms.fillsCookie (h : Ms A M) (x : Tx A M t) (hn : NvM A M t r) (ha : AtM A M t r) {us : SL} (hu : SuM (mu A M) us) {q : AdV} (hq : AdM (mu A M) 100 q) (hq1 : 1 ≤ q.2.2.2.length) (hq0 : g q.2.2.2 0 = 47) : ∃ B, f_X9_fillsCookie A M = some B ∧ FiM A B M us q r := by
  have hx2 := x.2.1
  have hne : ¬ oP M M := show ¬ M = M + 1 by omega
  have hd := ha.2.2.1
  have hhl := hq.2.2.2.1
  have K : ∀ o : Bool, o = mkO us r → ∃ B, k_X9_fillsCookie_26 A M (bI (!o)) = some B ∧ FiM A B M us q r := by
    intro o ho
    have ho' : o = false → r.1.2.2.1 ≠ [] := fun z1 z2 => by rw [ho] at z1; unfold mkO at z1; rw [decide_eq_true z2, Bool.true_or] at z1; cases z1
    have hml : (mkD us q r).length < 200 := by unfold mkD; split <;> (have := hd.2.2; omega)
    have h1 := h.set (i := 8608) (x := lB o)
    have h2 := h1.set (i := 8602) (x := lN (mkD us q r).length)
    have e2 : Eqx (oP M) A (hsL (hsL A 1035 (M + 1) 8608 (lB o)) 1035 (M + 1) 8602 (lN (mkD us q r).length)) := Eqx.tr (Eqx.sL rfl) (Eqx.sL rfl)
    have m2 : ∀ k, mu (hsL (hsL A 1035 (M + 1) 8608 (lB o)) 1035 (M + 1) 8602 (lN (mkD us q r).length)) M k = if k = 8602 then lN (mkD us q r).length else if k = 8608 then lB o else mu A M k := fun k => by rw [mu_set, mu_set]
    -- the rest, once the domain lies there
    have R : ∀ D, Eqx (oP M) A D → (∀ k, k < 8662 ∨ 8692 ≤ k → mu D M k = if k = 8602 then lN (mkD us q r).length else if k = 8608 then lB o else mu A M k) → ((mkD us q r).length ≤ 30 → Sg (mu D M) 8662 (mkD us q r)) → ∃ B, k_X9_fillsCookie_112 D M = some B ∧ FiM A B M us q r := by
      intro D eD mD sD
      have cD : ∀ k, k < 8600 → mu D M k = mu A M k := fun k hk => by rw [mD k (by omega), if_neg (by omega), if_neg (by omega)]
      obtain ⟨B, b1, b2, b3, b4, b5, b6, b7, b8⟩ := (h.eq eD hne).fill112 (x.eq eD (fun k _ z => cD k z)) (hn.eq eD (fun k _ z => cD k z) hx2) (ha.2.2.2.1.fr (B := D) (eD.I hne _ _) (eD.I hne _ _) (eD.I hne _ _) (fun k hk => cD k hk) hx2 rfl) (hq.congr (fun k z1 z2 => cD k (by omega))) hq1 hq0
      refine ⟨B, b1, eD.tr b2, fun k hk => ?_, ⟨b4, b5, ?_, b7, ?_⟩, b6, b8, fun z => (sD z).congr (fun k z1 z2 => b3 k (by omega))⟩
      · rw [b3 k (by omega), mD k (by omega), if_neg (by omega), if_neg (by omega)]
      · rw [b3 _ (by omega), mD _ (by omega), if_pos rfl]
      · rw [b3 _ (by omega), mD _ (by omega), if_neg (by omega), if_pos rfl, ho]
    have c102 : mu (hsL A 1035 (M + 1) 8608 (lB o)) M 102 = lN q.2.2.1.length := by rw [mu_set, if_neg (by omega)]; exact hq.1.2.2.1
    have c102' : mu (hsL (hsL A 1035 (M + 1) 8608 (lB o)) 1035 (M + 1) 8602 (lN (mkD us q r).length)) M 102 = lN q.2.2.1.length := by rw [m2, if_neg (by omega), if_neg (by omega)]; exact hq.1.2.2.1
    have hl1 : f_X9_hostLong (hsL A 1035 (M + 1) 8608 (lB o)) M = some (nI q.2.2.1.length) := by
      unfold f_X9_hostLong
      rw [show (102 : Int32) = nI 102 from rfl, h1.gd (by omega), h1.vl (by omega), c102, lN_i]
    have hl2 : f_X9_hostLong (hsL (hsL A 1035 (M + 1) 8608 (lB o)) 1035 (M + 1) 8602 (lN (mkD us q r).length)) M = some (nI q.2.2.1.length) := by
      unfold f_X9_hostLong
      rw [show (102 : Int32) = nI 102 from rfl, h2.gd (by omega), h2.vl (by omega), c102', lN_i]
    have k43 : ∀ y : Int64, y = lB o → k_X9_fillsCookie_43 A M (bI (!o)) (M + 1) (8608 : Int32) y = k_X9_fillsCookie_68 (hsL A 1035 (M + 1) 8608 (lB o)) M (bI (!o)) (M + 1) (8602 : Int32) (lN (mkD us q r).length) := by
      intro y hy
      subst hy
      unfold k_X9_fillsCookie_43
      rw [h.2.2, if_pos rfl, show (8608 : Int32) = nI 8608 from rfl, if_pos ((nI_wix (by omega)).mpr (show 8608 < 9000 by omega)), nI_clamp (by omega), if_pos h1.1, h1.2.1, hl1, Option.bind_some]
      cases ho2 : o
      · rw [if_neg (by decide)]
        have hdl := (hd.2.1 (ho' ho2)).1
        simp only [hgI_sL]
        have : mkD us q r = r.1.2.2.1 := by unfold mkD; rw [← ho, ho2]; rfl
        rw [hdl, nI_l (by have := hd.2.2; omega), this]
      · rw [if_pos (by rfl)]
        have : mkD us q r = q.2.2.1 := by unfold mkD; rw [← ho, ho2]; rfl
        rw [nI_l (by omega), this]
    have k68 : ∃ B, k_X9_fillsCookie_68 (hsL A 1035 (M + 1) 8608 (lB o)) M (bI (!o)) (M + 1) (8602 : Int32) (lN (mkD us q r).length) = some B ∧ FiM A B M us q r := by
      unfold k_X9_fillsCookie_68
      rw [h1.2.2, if_pos rfl, show (8602 : Int32) = nI 8602 from rfl, if_pos ((nI_wix (by omega)).mpr (show 8602 < 9000 by omega)), nI_clamp (by omega), hl2, Option.bind_some, if_pos h2.1]
      cases ho2 : o
      · have hdd := hd.2.1 (ho' ho2)
        have hmD : mkD us q r = r.1.2.2.1 := by unfold mkD; rw [← ho, ho2]; rfl
        rw [if_neg (by decide), if_pos (by rw [← ho2]; exact h2.1)]
        rw [← ho2]
        rw [show hgI (hsL (hsL A 1035 (M + 1) 8608 (lB o)) 1035 (M + 1) 8602 (lN (mkD us q r).length)) 477 M 0 = nI r.1.2.2.1.length from hdd.1]
        by_cases q30 : 30 < r.1.2.2.1.length
        · obtain ⟨B, b1, b2⟩ := R _ e2 (fun k _ => m2 k) (fun z => by rw [hmD] at z; omega)
          refine ⟨B, ?_, b2⟩
          rw [if_pos (show (30 : Int32) < nI r.1.2.2.1.length from nI_lt (a := 30) q30 (by have := hd.2.2; omega)), b1]
        · obtain ⟨D, f1, f2, f3⟩ := h2.copies (f := 8800) (n := r.1.2.2.1.length) (t := 8662) (by omega) (by omega) (by omega)
          obtain ⟨B, b1, b2⟩ := R D (e2.tr f2) (fun k z => by rw [f3, if_neg (by omega), m2]) (fun _ => by
            rw [hmD]
            intro i hi
            rw [f3, if_pos (by omega), m2, if_neg (by omega), if_neg (by omega), show 8800 + (8662 + i - 8662) = 8800 + i by omega]
            exact hdd.2 i hi)
          refine ⟨B, ?_, b2⟩
          rw [if_neg (show ¬ (30 : Int32) < nI r.1.2.2.1.length from nI_nlt (a := 30) (b := r.1.2.2.1.length) (by omega) (by omega)), show (8800 : Int32) = nI 8800 from rfl, show (8662 : Int32) = nI 8662 from rfl, f1, Option.bind_some, b1]
      · have hmD : mkD us q r = q.2.2.1 := by unfold mkD; rw [← ho, ho2]; rfl
        obtain ⟨D, f1, f2, f3⟩ := h2.copies (f := 104) (n := q.2.2.1.length) (t := 8662) (by omega) (by omega) (by omega)
        obtain ⟨B, b1, b2⟩ := R D (e2.tr f2) (fun k z => by rw [f3, if_neg (by omega), m2]) (fun _ => by
          rw [hmD]
          intro i hi
          rw [f3, if_pos (by omega), m2, if_neg (by omega), if_neg (by omega), show 104 + (8662 + i - 8662) = 100 + 4 + i by omega]
          exact hq.2.1 i hi)
        refine ⟨B, ?_, b2⟩
        rw [if_pos (by rfl), ← ho2, show (104 : Int32) = nI 104 from rfl, show (8662 : Int32) = nI 8662 from rfl, f1, Option.bind_some, b1]
    obtain ⟨B, b1, b2⟩ := k68
    refine ⟨B, ?_, b2⟩
    unfold k_X9_fillsCookie_26
    rw [if_pos h.1, h.2.1]
    cases ho2 : o
    · rw [if_neg (by decide)]
      rw [ho2] at k43 b1
      exact (k43 0 rfl).trans b1
    · rw [if_pos (by rfl)]
      rw [ho2] at k43 b1
      exact (k43 1 rfl).trans b1
  unfold f_X9_fillsCookie k_X9_fillsCookie_25
  rw [if_pos h.1, hd.1]
  by_cases q0 : r.1.2.2.1 = []
  · rw [decide_eq_false (fun z => z q0), if_pos (by rfl)]
    exact K true (by unfold mkO; rw [decide_eq_true q0, Bool.true_or])
  · have hdd := hd.2.1 q0
    rw [decide_eq_true q0, if_neg (by decide), hdd.1, show (8800 : Int32) = nI 8800 from rfl, h.isPublic hu hdd.2 (by have := hd.2.2; omega), Option.bind_some]
    have ho : (isDom r.1.2.2.1 && decide (pubS us r.1.2.2.1 = 0)) = mkO us r := by unfold mkO; rw [decide_eq_false q0, Bool.false_or]
    rw [ho]
    cases hm : mkO us r
    · rw [if_pos (by rfl)]; exact K false hm.symm
    · rw [if_neg (by decide)]; exact K true hm.symm
theorem Ms.expires (h : Ms A M) (ha : AgM A M r) (hd : DtM A M r) (hr : okr r) {now : Int64} (hn : mu A M 0 = now) : f_X9_expires A M = some (bI (isExp r now), hsL A 1035 (M + 1) 8604 (expAt r now)) := by
  have h1 : ∀ z, Ms (hsL A 1035 (M + 1) 8604 z) M := fun z => h.set
  have n1 : ∀ z, mu (hsL A 1035 (M + 1) 8604 z) M 0 = now := fun z => by rw [mu_set, if_neg (by omega)]; exact hn
  unfold f_X9_expires isExp expAt
  rw [if_pos h.1, if_pos h.a11, if_pos (show wix (0 : Int32) _ from h.wx (i := 0) (by omega)), show hgL A 1035 (hgR A 448 M 0) (0 : Int32).toNatClampNeg = now from (h.vl (i := 0) (by omega)).trans hn, ha.1, hd.1, h.2.1]
  cases q1 : r.2.1.2.1 with
  | some a =>
    rw [if_neg (show ¬ bI (some a).isSome = 0 by show ¬ bI true = _; decide), ha.2 a q1]
    have k51 : ∀ z, k_X9_expires_51 A M (M + 1) (8604 : Int32) z = some (bI (decide (¬ 0 < a)), hsL A 1035 (M + 1) 8604 z) := by
      intro z
      unfold k_X9_expires_51
      rw [h.2.2, if_pos rfl, show (8604 : Int32) = nI 8604 from rfl, if_pos ((nI_wix (by omega)).mpr (show 8604 < 9000 by omega)), nI_clamp (by omega), if_pos (h1 z).1, hL_set, ha.2 a q1]
      by_cases q : 0 < a
      · rw [if_pos (show (0 : Int64) < a.toInt64 from (i64_lt (a := 0)).mpr q), decide_eq_false (fun z => z q)]; rfl
      · rw [if_neg (show ¬ (0 : Int64) < a.toInt64 from fun z => q ((i64_lt (a := 0)).mp z)), decide_eq_true q]; rfl
    show (if a.toInt64 ≤ (34560000 : Int64) then _ else _) = some (bI (decide (¬ 0 < a)), hsL A 1035 (M + 1) 8604 (now + (if 34560000 < a then (34560000 : Int32) else a).toInt64))
    have c9 : (34560000 : Int32).toInt64 = (34560000 : Int64) := by decide
    by_cases q : 34560000 < a
    · rw [if_neg (show ¬ a.toInt64 ≤ (34560000 : Int64) from fun z => Int32.not_le.mpr q (i64_le.mp (by rw [c9]; exact z))), if_pos q, c9]
      exact k51 _
    · rw [if_pos (show a.toInt64 ≤ (34560000 : Int64) from by rw [← c9]; exact i64_le.mpr (Int32.not_lt.mp q)), if_neg q]
      exact k51 _
  | none =>
    rw [if_pos (by rfl)]
    cases q2 : r.2.1.2.2 with
    | none =>
      rw [if_pos (by rfl)]
      unfold k_X9_expires_104
      rw [h.2.2, if_pos rfl, show (8604 : Int32) = nI 8604 from rfl, if_pos ((nI_wix (by omega)).mpr (show 8604 < 9000 by omega)), nI_clamp (by omega), if_pos (h1 _).1, show hgI (hsL A 1035 (M + 1) 8604 (-1)) 474 M 0 = 0 from (by rw [hgI_sL, hd.1, q2]; rfl), if_pos rfl]
      rfl
    | some d =>
      rw [if_neg (show ¬ bI (some d).isSome = 0 by show ¬ bI true = _; decide), hd.2 d q2]
      have k104 : ∀ z, k_X9_expires_104 A M (M + 1) (8604 : Int32) z = some (bI (decide (¬ now < lN d)), hsL A 1035 (M + 1) 8604 z) := by
        intro z
        unfold k_X9_expires_104
        rw [h.2.2, if_pos rfl, show (8604 : Int32) = nI 8604 from rfl, if_pos ((nI_wix (by omega)).mpr (show 8604 < 9000 by omega)), nI_clamp (by omega), if_pos (h1 z).1, show hgI (hsL A 1035 (M + 1) 8604 z) 474 M 0 = 1 from (by rw [hgI_sL, hd.1, q2]; rfl), if_neg (show ¬ (1 : Int32) = 0 by decide), if_pos (h1 z).a11, if_pos (show wix (0 : Int32) _ from (h1 z).wx (i := 0) (by omega)), show hgL (hsL A 1035 (M + 1) 8604 z) 1035 (hgR (hsL A 1035 (M + 1) 8604 z) 448 M 0) (0 : Int32).toNatClampNeg = now from ((h1 z).vl (i := 0) (by omega)).trans (n1 z), hL_set, hd.2 d q2]
        by_cases q : now < lN d
        · rw [if_pos q, decide_eq_false (fun z => z q)]; rfl
        · rw [if_neg q, decide_eq_true q]; rfl
      show (if lN d ≤ now + 34560000 then _ else _) = some (bI (decide (¬ now < lN d)), hsL A 1035 (M + 1) 8604 (if now + 34560000 < lN d then now + 34560000 else lN d))
      by_cases q : now + 34560000 < lN d
      · rw [if_neg (Int64.not_le.mpr q), if_pos q]; exact k104 _
      · rw [if_pos (Int64.not_lt.mp q), if_neg q]; exact k104 _
end
