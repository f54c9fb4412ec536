/-! the reference: an attribute, all of a cookie's text -/
section
variable {A B : Hp} {M : Nat} {t : List Int32} {v w : RdV}
theorem AgM.fr (h : AgM A M v) (e1 : hgI B 472 M 0 = hgI A 472 M 0) (e2 : hgL B 473 M 0 = hgL A 473 M 0) (e : w.2.1.2.1 = v.2.1.2.1) : AgM B M w := ⟨by rw [e1, e]; exact h.1, fun x hx => by rw [e2]; exact h.2 x (by rw [← e]; exact hx)⟩
theorem DtM.fr (h : DtM A M v) (e1 : hgI B 474 M 0 = hgI A 474 M 0) (e2 : hgL B 475 M 0 = hgL A 475 M 0) (e : w.2.1.2.2 = v.2.1.2.2) : DtM B M w := ⟨by rw [e1, e]; exact h.1, fun x hx => by rw [e2]; exact h.2 x (by rw [← e]; exact hx)⟩
theorem DoM.fr (h : DoM A M v) (e1 : hgI B 476 M 0 = hgI A 476 M 0) (e2 : hgI B 477 M 0 = hgI A 477 M 0) (e3 : ∀ k, 8800 ≤ k → mu B M k = mu A M k) (e : w.1.2.2.1 = v.1.2.2.1) : DoM B M w := ⟨by rw [e1, e]; exact h.1, fun hx => by rw [e] at hx ⊢; exact ⟨by rw [e2]; exact (h.2.1 hx).1, (h.2.1 hx).2.congr (fun k h1 _ => e3 k h1)⟩, by rw [e]; exact h.2.2⟩
theorem PaM.fr (h : PaM A M t v) (e1 : hgI B 478 M 0 = hgI A 478 M 0) (e2 : hgI B 479 M 0 = hgI A 479 M 0) (e4 : hgI B 480 M 0 = hgI A 480 M 0) (e3 : ∀ k, k < 8600 → mu B M k = mu A M k) (ht : t.length ≤ 160) (e : w.1.2.2.2 = v.1.2.2.2) : PaM B M t w := ⟨by rw [e1, e]; exact h.1, fun hx => by
  rw [e] at hx ⊢
  obtain ⟨c, c1, c2, c3, c4⟩ := h.2.1 hx
  exact ⟨c, by rw [e2]; exact c1, by rw [e4]; exact c2, c3, c4.congr (fun k h1 h2 => e3 k (by omega))⟩, by rw [e]; exact h.2.2⟩
theorem FlM.fr (h : FlM A M v) (e3 : ∀ k, 8609 ≤ k → k ≤ 8612 → mu B M k = mu A M k) (e : w.2.2 = v.2.2) : FlM B M w := ⟨by rw [e3 _ (by omega) (by omega), e]; exact h.1, by rw [e3 _ (by omega) (by omega), e]; exact h.2.1, by rw [e3 _ (by omega) (by omega), e]; exact h.2.2.1, by rw [e3 _ (by omega) (by omega), e]; exact h.2.2.2⟩
end
section
variable {A : Hp} {M : Nat} {t : List Int32} {v : RdV}
theorem mu_sF (A : Hp) (M f k : Nat) (x : Int64) : mu (hsL A f M 0 x) M k = mu A M k := by
  show hgL (hsL A f M 0 x) 1035 (M + 1) k = _
  rw [hgL_sL, if_neg (by omega)]
theorem hL_set (A : Hp) (M f i : Nat) (x : Int64) : hgL (hsL A 1035 (M + 1) i x) f M 0 = hgL A f M 0 := by
  rw [hgL_sL, if_neg (by omega)]
/-- a cell of the flags changes -/
theorem AtM.flag (h : AtM A M t v) (x : Tx A M t) {i : Nat} {y : Int64} {w : RdV} (h1 : 8609 ≤ i) (h2 : i ≤ 8612) (e1 : w.1 = v.1) (e2 : w.2.1 = v.2.1) (hf : FlM (hsL A 1035 (M + 1) i y) M w) : AtM (hsL A 1035 (M + 1) i y) M t w :=
  ⟨h.1.fr rfl (hL_set _ _ _ _ _) (by rw [e2]), h.2.1.fr rfl (hL_set _ _ _ _ _) (by rw [e2]), h.2.2.1.fr rfl rfl (fun k hk => by rw [mu_set, if_neg (by omega)]) (by rw [e1]), h.2.2.2.1.fr rfl rfl rfl (fun k hk => by rw [mu_set, if_neg (by omega)]) x.2.1 (by rw [e1]), hf⟩
theorem AtM.date (h : AtM A M t v) (x : Tx A M t) (o : Option Nat) : AtM (dSt A M o) M t (v.1, (v.2.1.1, v.2.1.2.1, o.orElse (fun _ => v.2.1.2.2)), v.2.2) ∧ RdE A (dSt A M o) M := by
  cases o with
  | none => exact ⟨h, RdE.rf⟩
  | some n =>
    refine ⟨⟨h.1.fr ?_ ?_ rfl, ⟨?_, ?_⟩, h.2.2.1.fr ?_ ?_ ?_ rfl, h.2.2.2.1.fr ?_ ?_ ?_ ?_ x.2.1 rfl, h.2.2.2.2.fr ?_ rfl⟩, (RdE.sI (by omega) (by omega)).tr RdE.sF⟩
    · show hgI (hsI A 474 M 0 1) 472 M 0 = _
      rw [hgI_sI, if_neg (by omega)]
    · show hgL (hsL (hsI A 474 M 0 1) 475 M 0 (lN n)) 473 M 0 = _
      rw [hgL_sL, if_neg (by omega)]; rfl
    · show hgI (hsI A 474 M 0 1) 474 M 0 = 1
      rw [hgI_sI, if_pos ⟨rfl, rfl, rfl⟩]
    · intro k hk
      cases hk
      show hgL (hsL (hsI A 474 M 0 1) 475 M 0 (lN n)) 475 M 0 = _
      rw [hgL_sL, if_pos ⟨rfl, rfl, rfl⟩]
    · show hgI (hsI A 474 M 0 1) 476 M 0 = _
      rw [hgI_sI, if_neg (by omega)]
    · show hgI (hsI A 474 M 0 1) 477 M 0 = _
      rw [hgI_sI, if_neg (by omega)]
    · intro k _; exact mu_sF _ _ _ _ _
    · show hgI (hsI A 474 M 0 1) 478 M 0 = _
      rw [hgI_sI, if_neg (by omega)]
    · show hgI (hsI A 474 M 0 1) 479 M 0 = _
      rw [hgI_sI, if_neg (by omega)]
    · show hgI (hsI A 474 M 0 1) 480 M 0 = _
      rw [hgI_sI, if_neg (by omega)]
    · intro k _; exact mu_sF _ _ _ _ _
    · intro k _ _; exact mu_sF _ _ _ _ _
theorem AtM.age (h : AtM A M t v) (x : Tx A M t) (o : Option Int32) : AtM (aSt A M o) M t (v.1, (v.2.1.1, o.orElse (fun _ => v.2.1.2.1), v.2.1.2.2), v.2.2) ∧ RdE A (aSt A M o) M := by
  cases o with
  | none => exact ⟨h, RdE.rf⟩
  | some n =>
    refine ⟨⟨⟨?_, ?_⟩, h.2.1.fr ?_ ?_ rfl, h.2.2.1.fr ?_ ?_ ?_ rfl, h.2.2.2.1.fr ?_ ?_ ?_ ?_ x.2.1 rfl, h.2.2.2.2.fr ?_ rfl⟩, (RdE.sI (by omega) (by omega)).tr RdE.sF⟩
    · show hgI (hsI A 472 M 0 1) 472 M 0 = 1
      rw [hgI_sI, if_pos ⟨rfl, rfl, rfl⟩]
    · intro k hk
      cases hk
      show hgL (hsL (hsI A 472 M 0 1) 473 M 0 n.toInt64) 473 M 0 = _
      rw [hgL_sL, if_pos ⟨rfl, rfl, rfl⟩]
    · show hgI (hsI A 472 M 0 1) 474 M 0 = _
      rw [hgI_sI, if_neg (by omega)]
    · show hgL (hsL (hsI A 472 M 0 1) 473 M 0 n.toInt64) 475 M 0 = _
      rw [hgL_sL, if_neg (by omega)]; rfl
    · show hgI (hsI A 472 M 0 1) 476 M 0 = _
      rw [hgI_sI, if_neg (by omega)]
    · show hgI (hsI A 472 M 0 1) 477 M 0 = _
      rw [hgI_sI, if_neg (by omega)]
    · intro k _; exact mu_sF _ _ _ _ _
    · show hgI (hsI A 472 M 0 1) 478 M 0 = _
      rw [hgI_sI, if_neg (by omega)]
    · show hgI (hsI A 472 M 0 1) 479 M 0 = _
      rw [hgI_sI, if_neg (by omega)]
    · show hgI (hsI A 472 M 0 1) 480 M 0 = _
      rw [hgI_sI, if_neg (by omega)]
    · intro k _; exact mu_sF _ _ _ _ _
    · intro k _ _; exact mu_sF _ _ _ _ _
theorem AtM.dom {B : Hp} (h : AtM A M t v) (x : Tx A M t) {o : Option (List Int32)} (hB : doR A B M o) (ho : ∀ s, o = some s → s ≠ [] ∧ s.length ≤ 160) : AtM B M t ((v.1.1, v.1.2.1, o.getD v.1.2.2.1, v.1.2.2.2), v.2) ∧ RdE A B M := by
  cases o with
  | none =>
    have hB : B = A := hB
    rw [hB]; exact ⟨h, RdE.rf⟩
  | some s =>
    obtain ⟨b1, b2, b3, b4, b5, b6, b7⟩ := hB
    obtain ⟨s1, s2⟩ := ho s rfl
    refine ⟨⟨h.1.fr (b5 _ (by omega) (by omega)) (b6 _) rfl, h.2.1.fr (b5 _ (by omega) (by omega)) (b6 _) rfl, ⟨?_, fun _ => ⟨b2, b3⟩, s2⟩, h.2.2.2.1.fr (b5 _ (by omega) (by omega)) (b5 _ (by omega) (by omega)) (b5 _ (by omega) (by omega)) (fun k hk => b7 k (by omega)) x.2.1 rfl, h.2.2.2.2.fr (fun k _ hk => b7 k (by omega)) rfl⟩, b4⟩
    show _ = bI (decide (s ≠ []))
    rw [decide_eq_true s1, b1]; rfl
theorem AtM.path (h : AtM A M t v) (x : Tx A M t) {c d : Nat} (hcd : c < d) (hd : d ≤ t.length) (h40 : d - c ≤ 40) : AtM (hsI (hsI (hsI A 478 M 0 1) 479 M 0 (nI c)) 480 M 0 (nI (d - c))) M t ((v.1.1, v.1.2.1, v.1.2.2.1, sub t c d), v.2) ∧ RdE A (hsI (hsI (hsI A 478 M 0 1) 479 M 0 (nI c)) 480 M 0 (nI (d - c))) M := by
  have hlen : (sub t c d).length = d - c := by rw [sub_len]; omega
  have hne : sub t c d ≠ [] := fun z => by rw [z] at hlen; have : 0 = d - c := hlen; omega
  have q : ∀ f, f ≠ 478 → f ≠ 479 → f ≠ 480 → hgI (hsI (hsI (hsI A 478 M 0 1) 479 M 0 (nI c)) 480 M 0 (nI (d - c))) f M 0 = hgI A f M 0 := fun f h1 h2 h3 => by rw [hgI_sI, if_neg (by omega), hgI_sI, if_neg (by omega), hgI_sI, if_neg (by omega)]
  refine ⟨⟨h.1.fr (q _ (by omega) (by omega) (by omega)) rfl rfl, h.2.1.fr (q _ (by omega) (by omega) (by omega)) rfl rfl, h.2.2.1.fr (q _ (by omega) (by omega) (by omega)) (q _ (by omega) (by omega) (by omega)) (fun _ _ => rfl) rfl, ⟨?_, fun _ => ⟨c, ?_, ?_, ?_, ?_⟩, ?_⟩, h.2.2.2.2.fr (fun _ _ _ => rfl) rfl⟩, ((RdE.sI (by omega) (by omega)).tr (RdE.sI (by omega) (by omega))).tr (RdE.sI (by omega) (by omega))⟩
  · show _ = bI (decide (sub t c d ≠ []))
    rw [decide_eq_true hne, hgI_sI, if_neg (by omega), hgI_sI, if_neg (by omega), hgI_sI, if_pos ⟨rfl, rfl, rfl⟩]; rfl
  · rw [hgI_sI, if_neg (by omega), hgI_sI, if_pos ⟨rfl, rfl, rfl⟩]
  · show _ = nI (sub t c d).length
    rw [hgI_sI, if_pos ⟨rfl, rfl, rfl⟩, hlen]
  · show c + (sub t c d).length ≤ _
    omega
  · exact x.2.2.1.sub c d
  · show (sub t c d).length ≤ 40
    omega
theorem trF_self (s : List Int32) (b : Nat) : trF s b b = b := by unfold trF; rw [Nat.sub_self]; rfl
theorem trT_self (s : List Int32) (b : Nat) : trT s b b = b := by unfold trT; rw [Nat.sub_self]; rfl
theorem rdDm_ok {gv s : List Int32} (h : rdDm gv = some s) : s ≠ [] ∧ s.length ≤ gv.length := by
  unfold rdDm at h
  by_cases q : (if g gv 0 = 46 then 1 else 0) < gv.length
  · simp only [if_pos q] at h
    have h := Option.some.inj h
    have hl : s.length = gv.length - (if g gv 0 = 46 then 1 else 0) := by rw [← h, low_len, sub_len, Nat.min_self]
    exact ⟨fun z => by rw [z] at hl; have : 0 = gv.length - (if g gv 0 = 46 then 1 else 0) := hl; omega, by omega⟩
  · simp only [if_neg q] at h
    cases h
theorem Ms.attr39 (h : Ms A M) (hM : Mw A M) (x : Tx A M t) (ha : AtM A M t v) {b a' b' c0 : Nat} (hab : a' ≤ b') (hb' : b' ≤ t.length) (hc0 : c0 ≤ b) (hb : b ≤ t.length) : ∃ B, k_X9_readsAttribute_39 A M (nI b) (nI a') (nI b') M (nI c0) = some B ∧ AtM B M t (rdA2 (low (sub t a' b')) (sub t (trF t c0 b) (trT t (trF t c0 b) b)) v) ∧ RdE A B M := by
  have hx2 := x.2.1
  have l1 := trF_le (s := t) hc0
  have l2 := trT_le (s := t) l1.2
  unfold k_X9_readsAttribute_39
  rw [if_pos h.1, h.trimFrom x hc0 hb, Option.bind_some, if_pos h.1, h.trimTo x l1.2 hb, Option.bind_some]
  generalize hc : trF t c0 b = c at *
  generalize hd : trT t c b = d at *
  have hcd : c ≤ d := l2.1
  have hdt : d ≤ t.length := by omega
  have hlen : (sub t c d).length = d - c := by rw [sub_len]; omega
  rw [show f_X9_isLikely A M (nI a') (nI b') (hgR A 455 M 0) = some (bI (decide (low (sub t a' b') = wsc 7))) from h.isLikelyW hM x 2 (by omega) hab hb', Option.bind_some, show f_X9_isLikely A M (nI a') (nI b') (hgR A 456 M 0) = some (bI (decide (low (sub t a' b') = wsc 8))) from h.isLikelyW hM x 3 (by omega) hab hb', Option.bind_some, show f_X9_isLikely A M (nI a') (nI b') (hgR A 457 M 0) = some (bI (decide (low (sub t a' b') = wsc 9))) from h.isLikelyW hM x 4 (by omega) hab hb', Option.bind_some, show f_X9_isLikely A M (nI a') (nI b') (hgR A 458 M 0) = some (bI (decide (low (sub t a' b') = wsc 10))) from h.isLikelyW hM x 5 (by omega) hab hb', Option.bind_some]
  have k204 : k_X9_readsAttribute_204 A M (nI a') (nI b') (nI c) (nI d) = if low (sub t a' b') = wsc 11 then some (hsL A 1035 (M + 1) 8609 1) else if low (sub t a' b') = wsc 12 then some (hsL A 1035 (M + 1) 8610 1) else if low (sub t a' b') = wsc 13 then some (hsL A 1035 (M + 1) 8611 (lN (oneO (low (sub t c d)) 14 15 16 v.2.2.2.2.1))) else if low (sub t a' b') = wsc 17 then some (hsL A 1035 (M + 1) 8612 (lN (oneO (low (sub t c d)) 18 19 20 v.2.2.2.2.2))) else some A := by
    unfold k_X9_readsAttribute_204
    rw [if_pos h.1, show f_X9_isLikely A M (nI a') (nI b') (hgR A 459 M 0) = some (bI (decide (low (sub t a' b') = wsc 11))) from h.isLikelyW hM x 6 (by omega) hab hb', Option.bind_some, show f_X9_isLikely A M (nI a') (nI b') (hgR A 460 M 0) = some (bI (decide (low (sub t a' b') = wsc 12))) from h.isLikelyW hM x 7 (by omega) hab hb', Option.bind_some, show f_X9_isLikely A M (nI a') (nI b') (hgR A 461 M 0) = some (bI (decide (low (sub t a' b') = wsc 13))) from h.isLikelyW hM x 8 (by omega) hab hb', Option.bind_some, show f_X9_isLikely A M (nI a') (nI b') (hgR A 462 M 0) = some (bI (decide (low (sub t a' b') = wsc 17))) from h.isLikelyW hM x 9 (by omega) hab hb', Option.bind_some, show f_X9_readsChoice A M (12 : Int32) (nI c) (nI d) (hgR A 466 M 0) (hgR A 467 M 0) (hgR A 468 M 0) = some (hsL A 1035 (M + 1) 8612 (lN (oneO (low (sub t c d)) 18 19 20 v.2.2.2.2.2))) from h.readsChoice hM x (p := 12) (i := 13) (j := 14) (k := 15) hcd hdt (by omega) (by omega) (by omega) (by omega) ha.2.2.2.2.2.2.2, Option.bind_some, show f_X9_readsChoice A M (11 : Int32) (nI c) (nI d) (hgR A 463 M 0) (hgR A 464 M 0) (hgR A 465 M 0) = some (hsL A 1035 (M + 1) 8611 (lN (oneO (low (sub t c d)) 14 15 16 v.2.2.2.2.1))) from h.readsChoice hM x (p := 11) (i := 10) (j := 11) (k := 12) hcd hdt (by omega) (by omega) (by omega) (by omega) ha.2.2.2.2.2.2.1, Option.bind_some, if_pos h.a11, if_pos h.a11, if_pos (show wix (8610 : Int32) _ from h.wx (i := 8610) (by omega)), if_pos (show wix (8609 : Int32) _ from h.wx (i := 8609) (by omega)), h.2.1, show (8609 : Int32).toNatClampNeg = 8609 by decide, show (8610 : Int32).toNatClampNeg = 8610 by decide]
    by_cases q1 : low (sub t a' b') = wsc 11
    · rw [decide_eq_true q1, if_neg (by decide), if_pos q1]
    · rw [decide_eq_false q1, if_pos (by rfl), if_neg q1]
      by_cases q2 : low (sub t a' b') = wsc 12
      · rw [decide_eq_true q2, if_neg (by decide), if_pos q2]
      · rw [decide_eq_false q2, if_pos (by rfl), if_neg q2]
        by_cases q3 : low (sub t a' b') = wsc 13
        · rw [decide_eq_true q3, if_neg (by decide), if_pos q3]
        · rw [decide_eq_false q3, if_pos (by rfl), if_neg q3]
          by_cases q4 : low (sub t a' b') = wsc 17
          · rw [decide_eq_true q4, if_neg (by decide), if_pos q4]
          · rw [decide_eq_false q4, if_pos (by rfl), if_neg q4]
  rw [k204]
  unfold rdA2
  by_cases q7 : low (sub t a' b') = wsc 7
  · rw [decide_eq_true q7, if_neg (by decide), if_pos q7, h.readsDate hM x hcd hdt, Option.bind_some]
    exact ⟨_, rfl, ha.date x _⟩
  rw [decide_eq_false q7, if_pos (by rfl), if_neg q7]
  by_cases q8 : low (sub t a' b') = wsc 8
  · rw [decide_eq_true q8, if_neg (by decide), if_pos q8, h.readsAge x hcd hdt, Option.bind_some]
    exact ⟨_, rfl, ha.age x _⟩
  rw [decide_eq_false q8, if_pos (by rfl), if_neg q8]
  by_cases q9 : low (sub t a' b') = wsc 9
  · obtain ⟨B, f1, f2⟩ := h.readsDomain x hcd hdt
    rw [decide_eq_true q9, if_neg (by decide), if_pos q9, f1, Option.bind_some]
    exact ⟨B, rfl, ha.dom x f2 (fun s hs => by have := rdDm_ok hs; exact ⟨this.1, by omega⟩)⟩
  rw [decide_eq_false q9, if_pos (by rfl), if_neg q9]
  by_cases q10 : low (sub t a' b') = wsc 10
  · rw [decide_eq_true q10, if_neg (by decide), if_pos q10, pk_sub hcd, nI_l (by omega), show f_X9_in A (lN (d - c)) (1 : Int64) (40 : Int64) = _ from inn_ (a := 1) (b := 40) (by omega) (by omega) (by omega), Option.bind_some, q10, if_neg (show ¬ wsc 10 = wsc 11 by decide), if_neg (show ¬ wsc 10 = wsc 12 by decide), if_neg (show ¬ wsc 10 = wsc 13 by decide), if_neg (show ¬ wsc 10 = wsc 17 by decide), hlen]
    by_cases hr : 1 ≤ d - c ∧ d - c ≤ 40
    · rw [decide_eq_true hr, if_neg (by decide), if_pos h.a11, show (8400 : Int32) + nI c = nI (8400 + c) from nI_add 8400 c, if_pos (h.wx (by omega)), h.vl (by omega), show mu A M (8400 + c) = _ from x.2.2.1 c (by omega), show g (sub t c d) 0 = g t c from sub_g (by omega)]
      by_cases hs : g t c = 47
      · rw [if_pos (show (g t c).toInt64 = (47 : Int64) from (cq 47 (by decide)).mpr hs), if_pos ⟨hs, hr.2⟩]
        exact ⟨_, rfl, ha.path x (by omega) hdt hr.2⟩
      · rw [if_neg (show ¬ (g t c).toInt64 = (47 : Int64) from fun z => hs ((cq 47 (by decide)).mp z)), if_neg (fun z => hs z.1)]
        exact ⟨A, rfl, ha, RdE.rf⟩
    · rw [decide_eq_false hr, if_pos (by rfl), if_neg (fun z => by
        have := g_in z.1 (by decide)
        omega)]
      exact ⟨A, rfl, ha, RdE.rf⟩
  rw [decide_eq_false q10, if_pos (by rfl), if_neg q10]
  have fl := ha.2.2.2.2
  by_cases q11 : low (sub t a' b') = wsc 11
  · rw [if_pos q11, if_pos q11]
    refine ⟨_, rfl, ha.flag x (by omega) (by omega) rfl rfl ⟨?_, ?_, ?_, ?_⟩, RdE.sM (by omega)⟩
    · rw [mu_set, if_pos rfl]; rfl
    · rw [mu_set, if_neg (by omega)]; exact fl.2.1
    · rw [mu_set, if_neg (by omega)]; exact fl.2.2.1
    · rw [mu_set, if_neg (by omega)]; exact fl.2.2.2
  rw [if_neg q11, if_neg q11]
  by_cases q12 : low (sub t a' b') = wsc 12
  · rw [if_pos q12, if_pos q12]
    refine ⟨_, rfl, ha.flag x (by omega) (by omega) rfl rfl ⟨?_, ?_, ?_, ?_⟩, RdE.sM (by omega)⟩
    · rw [mu_set, if_neg (by omega)]; exact fl.1
    · rw [mu_set, if_pos rfl]; rfl
    · rw [mu_set, if_neg (by omega)]; exact fl.2.2.1
    · rw [mu_set, if_neg (by omega)]; exact fl.2.2.2
  rw [if_neg q12, if_neg q12]
  by_cases q13 : low (sub t a' b') = wsc 13
  · rw [if_pos q13, if_pos q13]
    refine ⟨_, rfl, ha.flag x (by omega) (by omega) rfl rfl ⟨?_, ?_, ?_, ?_⟩, RdE.sM (by omega)⟩
    · rw [mu_set, if_neg (by omega)]; exact fl.1
    · rw [mu_set, if_neg (by omega)]; exact fl.2.1
    · rw [mu_set, if_pos rfl]
    · rw [mu_set, if_neg (by omega)]; exact fl.2.2.2
  rw [if_neg q13, if_neg q13]
  by_cases q17 : low (sub t a' b') = wsc 17
  · rw [if_pos q17, if_pos q17]
    refine ⟨_, rfl, ha.flag x (by omega) (by omega) rfl rfl ⟨?_, ?_, ?_, ?_⟩, RdE.sM (by omega)⟩
    · rw [mu_set, if_neg (by omega)]; exact fl.1
    · rw [mu_set, if_neg (by omega)]; exact fl.2.1
    · rw [mu_set, if_neg (by omega)]; exact fl.2.2.1
    · rw [mu_set, if_pos rfl]
  rw [if_neg q17, if_neg q17]
  exact ⟨A, rfl, ha, RdE.rf⟩
theorem Ms.readsAttribute (h : Ms A M) (hM : Mw A M) (x : Tx A M t) (ha : AtM A M t v) {a b : Nat} (hab : a ≤ b) (hb : b ≤ t.length) : ∃ B, f_X9_readsAttribute A M (nI a) (nI b) = some B ∧ AtM B M t (rdAttr t a b v) ∧ RdE A B M := by
  have hx2 := x.2.1
  have l0 := fnd_le (s := t) (c := 61) hab
  have l1 := trF_le (s := t) l0.1
  have l2 := trT_le (s := t) l1.2
  unfold f_X9_readsAttribute rdAttr trm
  rw [if_pos h.1, h.find x 61 hab hb, Option.bind_some, h.trimFrom x l0.1 (by omega), Option.bind_some, h.trimTo x l1.2 (by omega), Option.bind_some]
  unfold gvS
  by_cases hq : fnd t 61 a b < b
  · rw [if_neg (nI_ge hq (by omega)), if_pos hq, nI_1]
    exact h.attr39 hM x ha l2.1 (by omega) (by omega) hb
  · rw [if_pos (nI_le (by omega) (by omega)), if_neg hq]
    have := h.attr39 hM x ha (b := b) (c0 := b) l2.1 (by omega) (Nat.le_refl _) hb
    rw [trF_self, trT_self, sub_nil t (Nat.le_refl _)] at this
    exact this
theorem Ms.rdL : ∀ (n fu e : Nat) (A : Hp) (v : RdV), t.length - e < n → t.length - e < fu → e ≤ t.length → Ms A M → Mw A M → Tx A M t → AtM A M t v → ∃ B, k_X9_readsCookie_160 M fu A (nI e) = some B ∧ AtM B M t (rdLoop t n e v) ∧ RdE A B M := by
  intro n
  induction n with
  | zero => intro fu e A v h; omega
  | succ n ih =>
    intro fu e A v h1 h2 h3 h hM x ha
    have hx2 := x.2.1
    obtain ⟨fu, rfl⟩ : ∃ f, fu = f + 1 := ⟨fu - 1, by omega⟩
    show ∃ B, k_X9_readsCookie_160s M _ _ _ = some B ∧ AtM B M t (if e < t.length then rdLoop t n (fnd t 59 (e + 1) t.length) (rdAttr t (e + 1) (fnd t 59 (e + 1) t.length) v) else v) ∧ RdE A B M
    unfold k_X9_readsCookie_160s
    rw [if_pos h.1, x.1]
    by_cases hq : e < t.length
    · have l0 := fnd_le (s := t) (c := 59) (a := e + 1) (b := t.length) (by omega)
      obtain ⟨B, f1, f2, f3⟩ := h.readsAttribute hM x ha l0.1 l0.2
      obtain ⟨C, g1, g2, g3⟩ := ih fu (fnd t 59 (e + 1) t.length) B _ (by omega) (by omega) l0.2 (h.re f3) (hM.re f3) (x.re f3) f2
      refine ⟨C, ?_, by rw [if_pos hq]; exact g2, f3.tr g3⟩
      rw [if_neg (nI_ge hq (by omega)), nI_1, h.find x 59 (by omega) (Nat.le_refl _), Option.bind_some, f1, Option.bind_some, g1]
    · refine ⟨A, ?_, by rw [if_neg hq]; exact ha, RdE.rf⟩
      rw [if_pos (nI_le (by omega) (by omega))]
/-- the name and the value lie in the text -/
def NvM (A : Hp) (M : Nat) (t : List Int32) (v : RdV) : Prop := hgI A 481 M 0 = bI v.2.1.1 ∧ (∃ c, hgI A 482 M 0 = nI c ∧ hgI A 483 M 0 = nI v.1.1.length ∧ c + v.1.1.length ≤ t.length ∧ Sg (mu A M) (8400 + c) v.1.1) ∧ ∃ c, hgI A 484 M 0 = nI c ∧ hgI A 485 M 0 = nI v.1.2.1.length ∧ c + v.1.2.1.length ≤ t.length ∧ Sg (mu A M) (8400 + c) v.1.2.1
theorem NvM.re {B : Hp} (h : NvM A M t v) (e : RdE A B M) (ht : t.length ≤ 160) : NvM B M t v := by
  obtain ⟨h1, ⟨c, c1, c2, c3, c4⟩, d, d1, d2, d3, d4⟩ := h
  exact ⟨by rw [e.2.2.1 _ (by omega)]; exact h1, ⟨c, by rw [e.2.2.1 _ (by omega)]; exact c1, by rw [e.2.2.1 _ (by omega)]; exact c2, c3, c4.congr (fun k h1 h2 => e.2.2.2 k (by omega))⟩, d, by rw [e.2.2.1 _ (by omega)]; exact d1, by rw [e.2.2.1 _ (by omega)]; exact d2, d3, d4.congr (fun k h1 h2 => e.2.2.2 k (by omega))⟩
theorem rdA2_nv (a b : List Int32) (v : RdV) : (rdA2 a b v).1.1 = v.1.1 ∧ (rdA2 a b v).1.2.1 = v.1.2.1 ∧ (rdA2 a b v).2.1.1 = v.2.1.1 := by
  unfold rdA2
  split
  · exact ⟨rfl, rfl, rfl⟩
  split
  · exact ⟨rfl, rfl, rfl⟩
  split
  · exact ⟨rfl, rfl, rfl⟩
  split
  · split <;> exact ⟨rfl, rfl, rfl⟩
  split
  · exact ⟨rfl, rfl, rfl⟩
  split
  · exact ⟨rfl, rfl, rfl⟩
  split
  · exact ⟨rfl, rfl, rfl⟩
  split <;> exact ⟨rfl, rfl, rfl⟩
theorem rdLoop_nv (t : List Int32) : ∀ n e v, (rdLoop t n e v).1.1 = v.1.1 ∧ (rdLoop t n e v).1.2.1 = v.1.2.1 ∧ (rdLoop t n e v).2.1.1 = v.2.1.1 := by
  intro n
  induction n with
  | zero => intro e v; exact ⟨rfl, rfl, rfl⟩
  | succ n ih =>
    intro e v
    show (if e < t.length then rdLoop t n (fnd t 59 (e + 1) t.length) (rdAttr t (e + 1) (fnd t 59 (e + 1) t.length) v) else v).1.1 = _ ∧ (if e < t.length then rdLoop t n (fnd t 59 (e + 1) t.length) (rdAttr t (e + 1) (fnd t 59 (e + 1) t.length) v) else v).1.2.1 = _ ∧ (if e < t.length then rdLoop t n (fnd t 59 (e + 1) t.length) (rdAttr t (e + 1) (fnd t 59 (e + 1) t.length) v) else v).2.1.1 = _
    split
    · have := ih (fnd t 59 (e + 1) t.length) (rdAttr t (e + 1) (fnd t 59 (e + 1) t.length) v)
      have q := rdA2_nv (low (trm t (e + 1) (fnd t 61 (e + 1) (fnd t 59 (e + 1) t.length)))) (gvS t (fnd t 61 (e + 1) (fnd t 59 (e + 1) t.length)) (fnd t 59 (e + 1) t.length)) v
      exact ⟨this.1.trans q.1, this.2.1.trans q.2.1, this.2.2.trans q.2.2⟩
    · exact ⟨rfl, rfl, rfl⟩
end
