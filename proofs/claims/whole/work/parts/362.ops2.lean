/-! each call, the rest -/
theorem ixN (n : Nat) (hn : n ≤ 41) (i : Int32) : decide (0 ≤ i ∧ i < nI n) = false ∨ ∃ k, k < n ∧ i = nI k := by
  rcases pk_ix i (n := n) (by omega) with z | z | z
  · exact Or.inl (decide_eq_false (fun y => absurd z (Int32.not_lt.mpr y.1)))
  · exact Or.inl (decide_eq_false (fun y => absurd y.2 (Int32.not_lt.mpr z)))
  · exact Or.inr z
theorem RSt.ew {A B : Hp} {t : List Int32} {v : JV} {ms : List CkV} {P : Nat → Prop} (h : RSt A t v ms) (e : Ew P A B) (n : ∀ q, 526 ≤ q → q < 549 → ¬ P q) : RSt B t v ms := by
  obtain ⟨h1, h2, h3, h4, h5⟩ := h
  exact ⟨h1.ew e (n _ (by omega) (by omega)) (n _ (by omega) (by omega)), h2.ew e (n _ (by omega) (by omega)) (fun k hk => n _ (by omega) (by omega)), h3.ew e (n _ (by omega) (by omega)) (n _ (by omega) (by omega)), h4.congr (fun k _ => mu_ew e (n _ (by omega) (by omega)) k), by rw [e.R (n _ (by omega) (by omega))]; exact h5.1, by rw [e.S (n _ (by omega) (by omega))]; exact h5.2.1, by rw [e.R (n _ (by omega) (by omega))]; exact h5.2.2.1, by rw [e.S (n _ (by omega) (by omega))]; exact h5.2.2.2⟩
section
variable {A : Hp} {b : Nat}
theorem op_cookies (hT : ST A b) (hb : b < 512) : (hsh A 100).1 = 7 ∧ ∃ y A2, f_X8_cookies A 100 = some y ∧ (hsh A 526).1 = 8 ∧ f_X9_cookies A 526 = some (y, A2) ∧ ST A2 (b + 1) := by
  obtain ⟨t, v, ms, K, hX⟩ := hT
  obtain ⟨⟨hC, hR, hS, hD⟩, ⟨p, hI⟩, ho, hz⟩ := id hX
  obtain ⟨⟨i1, i2, i3, i4⟩, ⟨⟨l1, l2⟩, l3, l4⟩, ⟨i5, i6⟩, i7, i8, T, i9, i10⟩ := id hI
  have om := hX.om
  have ln := hX.len
  obtain ⟨A2, a1, a2, a3⟩ := hX.stG (F := f_X9_cookies A 526) (by rw [R_cookies hR.1 hR.2.2.2.1, ln])
  exact ⟨hC.1.1, _, A2, X_cookies hC, a2, a1, a3⟩
theorem op_time (hT : ST A b) (hb : b < 512) : (hsh A 100).1 = 7 ∧ ∃ y A2, f_X8_time A 100 = some y ∧ (hsh A 526).1 = 8 ∧ f_X9_time A 526 = some (y, A2) ∧ ST A2 (b + 1) := by
  obtain ⟨t, v, ms, K, hX⟩ := hT
  obtain ⟨⟨hC, hR, hS, hD⟩, ⟨p, hI⟩, ho, hz⟩ := id hX
  obtain ⟨⟨i1, i2, i3, i4⟩, ⟨⟨l1, l2⟩, l3, l4⟩, ⟨i5, i6⟩, i7, i8, T, i9, i10⟩ := id hI
  have om := hX.om
  have ln := hX.len
  obtain ⟨A2, a1, a2, a3⟩ := hX.stG (F := f_X9_time A 526) (R_time hR.1 hR.2.2.2.1)
  exact ⟨hC.1.1, _, A2, X_time hC, a2, a1, a3⟩
theorem op_nextExpiry (hT : ST A b) (hb : b < 512) : (hsh A 100).1 = 7 ∧ ∃ y A2, f_X8_nextExpiry A 100 = some y ∧ (hsh A 526).1 = 8 ∧ f_X9_nextExpiry A 526 = some (y, A2) ∧ ST A2 (b + 1) := by
  obtain ⟨t, v, ms, K, hX⟩ := hT
  obtain ⟨⟨hC, hR, hS, hD⟩, ⟨p, hI⟩, ho, hz⟩ := id hX
  obtain ⟨⟨i1, i2, i3, i4⟩, ⟨⟨l1, l2⟩, l3, l4⟩, ⟨i5, i6⟩, i7, i8, T, i9, i10⟩ := id hI
  have om := hX.om
  have ln := hX.len
  obtain ⟨A2, a1, a2, a3⟩ := hX.stG (F := f_X9_nextExpiry A 526) (R_nextExpiry hR.1 hR.2.2.2.1 p om.2.1)
  exact ⟨hC.1.1, _, A2, X_next hC, a2, a1, a3⟩
theorem op_victim (hT : ST A b) (hb : b < 512) : (hsh A 100).1 = 7 ∧ ∃ y A2, f_X8_victim A 100 = some y ∧ (hsh A 526).1 = 8 ∧ f_X9_victim A 526 = some (y, A2) ∧ ST A2 (b + 1) := by
  obtain ⟨t, v, ms, K, hX⟩ := hT
  obtain ⟨⟨hC, hR, hS, hD⟩, ⟨p, hI⟩, ho, hz⟩ := id hX
  obtain ⟨⟨i1, i2, i3, i4⟩, ⟨⟨l1, l2⟩, l3, l4⟩, ⟨i5, i6⟩, i7, i8, T, i9, i10⟩ := id hI
  have om := hX.om
  have ln := hX.len
  obtain ⟨A2, a1, a2, a3⟩ := hX.stG (F := f_X9_victim A 526) (R_victim hR.1 hR.2.2.2.1 p i1 om i5)
  exact ⟨hC.1.1, _, A2, X_vic hC i2 i5, a2, a1, a3⟩
theorem op_fingerprint (hT : ST A b) (hb : b < 512) : (hsh A 100).1 = 7 ∧ ∃ y A2, f_X8_fingerprint A 100 = some y ∧ (hsh A 526).1 = 8 ∧ f_X9_fingerprint A 526 = some (y, A2) ∧ ST A2 (b + 1) := by
  obtain ⟨t, v, ms, K, hX⟩ := hT
  obtain ⟨⟨hC, hR, hS, hD⟩, ⟨p, hI⟩, ho, hz⟩ := id hX
  obtain ⟨⟨i1, i2, i3, i4⟩, ⟨⟨l1, l2⟩, l3, l4⟩, ⟨i5, i6⟩, i7, i8, T, i9, i10⟩ := id hI
  have om := hX.om
  have ln := hX.len
  obtain ⟨A2, a1, a2, a3⟩ := hX.stG (F := f_X9_fingerprint A 526) (R_mix hR.1 hR.2.2.2.1 p i1 om (fun i hi => by have := i8 i hi; omega))
  exact ⟨hC.1.1, _, A2, X_mix hC, a2, a1, a3⟩
theorem op_firstFrom (hT : ST A b) (hb : b < 512)  : StI (f_L_firstFrom A 100 549) (fun B => f_X9_firstFrom B 526) b := by
  obtain ⟨t, v, ms, K, hX⟩ := hT
  obtain ⟨⟨hC, hR, hS, hD⟩, ⟨p, hI⟩, ho, hz⟩ := id hX
  obtain ⟨⟨i1, i2, i3, i4⟩, ⟨⟨l1, l2⟩, l3, l4⟩, ⟨i5, i6⟩, i7, i8, T, i9, i10⟩ := id hI
  have om := hX.om
  have ln := hX.len
  cases hq : isDom t with
  | false => exact hX.bad (k := 1) (by decide) (by unfold f_L_firstFrom; rw [if_pos hC.1.1, X_firstBad hC hq]; rfl) (fun B hB => ⟨_, R_firstBad hB.1 hB.2.2.1 hB.2.2.2.1 hq, RP.tt hB.2.2.1 hB.2.2.2.1 0 1⟩)
  | true => exact hX.ok CE.rf hC (by unfold f_L_firstFrom; rw [if_pos hC.1.1, X_first hC i2 hq]; exact out_ (hX.o CE.rf)) (hX.same (fun B' hB => R_first hB.1 hB.2.2.1 hB.2.2.2.1 p i1 om.1 hq)) hX.up
theorem op_remove (hT : ST A b) (hb : b < 512) (i : Int32) : StI (f_L_remove A 100 i 549) (fun B => f_X9_remove B 526 i) b := by
  obtain ⟨t, v, ms, K, hX⟩ := hT
  obtain ⟨⟨hC, hR, hS, hD⟩, ⟨p, hI⟩, ho, hz⟩ := id hX
  obtain ⟨⟨i1, i2, i3, i4⟩, ⟨⟨l1, l2⟩, l3, l4⟩, ⟨i5, i6⟩, i7, i8, T, i9, i10⟩ := id hI
  have om := hX.om
  have ln := hX.len
  have ix : ∀ i : Int32, decide (0 ≤ i ∧ i < nI (jC v).length) = false ∨ ∃ k, k < (jC v).length ∧ i = nI k := fun i => by
    rcases pk_ix i (n := (jC v).length) (by omega) with z | z | z
    · exact Or.inl (decide_eq_false (fun y => absurd z (Int32.not_lt.mpr y.1)))
    · exact Or.inl (decide_eq_false (fun y => absurd y.2 (Int32.not_lt.mpr z)))
    · exact Or.inr z
  rcases ix i with hi | ⟨k, hk, rfl⟩
  · exact hX.bad (k := 1) (by decide) (by unfold f_L_remove; rw [if_pos hC.1.1, X_rmBad hC hi]; rfl) (fun B hB => ⟨_, R_removeBad hB.1 hB.2.2.2.1 (by rw [ln]; exact hi), RP.th hB.2.2.1 hB.2.2.2.1 1⟩)
  · obtain ⟨B, b1, b2, b3⟩ := X_rm hC hk
    exact hX.ok b2 b3 (by unfold f_L_remove; rw [if_pos hC.1.1, b1]; exact out_ (hX.o b2)) (fun B' hB => by obtain ⟨C, ms', c1, c2, c3⟩ := R_remove hB.1 hB.2.2.1 hB.2.2.2.1 p i1 om.1 hk; exact ⟨C, ms', c1, c2, c3⟩) (hI.sub (List.eraseIdx_sublist _ _))
theorem op_clearSite (hT : ST A b) (hb : b < 512)  : StI (f_L_clearSite A 100 549) (fun B => f_X9_clearSite B 526) b := by
  obtain ⟨t, v, ms, K, hX⟩ := hT
  obtain ⟨⟨hC, hR, hS, hD⟩, ⟨p, hI⟩, ho, hz⟩ := id hX
  cases hq : (jR v).1 with
  | false => exact hX.bad (k := 1) (by decide) (by unfold f_L_clearSite; rw [if_pos hC.1.1, X_clrClosed hC hq]; rfl) (fun B hB => ⟨_, R_clearClosed hB.1 hB.2.2.2.1 hq, RP.tt hB.2.2.1 hB.2.2.2.1 0 1⟩)
  | true =>
    obtain ⟨B, b1, b2, b3⟩ := X_clr hC hq
    exact hX.ok b2 b3 (by unfold f_L_clearSite; rw [if_pos hC.1.1, b1]; exact out_ (hX.o b2)) (fun B' hB => by obtain ⟨C, ms', c1, c2, c3⟩ := R_clearSite hB.1 hB.2.2.1 hB.2.2.2.1 p hq; exact ⟨C, ms', c1, c2, c3⟩) (hI.sub (flt_sub _ _))
theorem op_endSession (hT : ST A b) (hb : b < 512) : (hsh A 100).1 = 7 ∧ ∃ y A1 A2, f_X8_endSession A 100 = some (y, A1) ∧ (hsh A1 526).1 = 8 ∧ f_X9_endSession A1 526 = some (y, A2) ∧ ST A2 (b + 1) := by
  obtain ⟨t, v, ms, K, hX⟩ := hT
  obtain ⟨⟨hC, hR, hS, hD⟩, ⟨p, hI⟩, ho, hz⟩ := id hX
  obtain ⟨B, b1, b2, b3⟩ := X_end hC
  exact ⟨hC.1.1, hX.stN (F := fun B => f_X9_endSession B 526) b2 b3 b1 (fun B' hB => by obtain ⟨C, ms', c1, c2, c3⟩ := R_endSession hB.1 hB.2.2.1 hB.2.2.2.1 p; exact ⟨C, ms', c1, c2, c3⟩) (hI.sub (flt_sub _ _))⟩
theorem op_advance (hT : ST A b) (hb : b < 512) (s : Int32) : StI (f_L_advance A 100 s 549) (fun B => f_X9_advance B 526 s) b := by
  obtain ⟨t, v, ms, K, hX⟩ := hT
  obtain ⟨⟨hC, hR, hS, hD⟩, ⟨p, hI⟩, ho, hz⟩ := id hX
  obtain ⟨⟨i1, i2, i3, i4⟩, ⟨⟨l1, l2⟩, l3, l4⟩, ⟨i5, i6⟩, i7, i8, T, i9, i10⟩ := id hI
  have om := hX.om
  have ln := hX.len
  by_cases hs : 0 ≤ s
  · obtain ⟨j, hj, rfl⟩ := nI_of (Int32.not_lt.mpr hs)
    obtain ⟨B, b1, b2, b3⟩ := X_adv hC hj
    have ss := flt_sub (goB (jT v + (nI j).toInt64)) (jC v)
    have hsl := ss.length_le
    refine hX.ok b2 b3 (by unfold f_L_advance; rw [if_pos hC.1.1, b1]; exact out_ (hX.o b2)) (fun B' hB => by obtain ⟨C, ms', c1, c2, c3⟩ := R_advance hB.1 hB.2.2.1 hB.2.2.2.1 p i2.2.1 hj; exact ⟨C, ms', c1, c2, c3⟩) ?_
    refine ⟨⟨i1.sub ss, i2.sub ss, (by show (flt (goB (jT v + (nI j).toInt64)) (jC v)).length ≤ 40; omega), fun c hc => i4 c (ss.subset hc)⟩, ⟨⟨l1, l2⟩, l3, l4⟩, ⟨i5, i6⟩, i7, fun i hi => ?_, T + j, ?_, ?_⟩
    · show (if i = 3 then jK v 3 + ((jC v).length - (flt (goB (jT v + (nI j).toInt64)) (jC v)).length) else jK v i) ≤ _
      have := i8 i hi
      have := i8 3 (by omega)
      split <;> omega
    · show jT v + (nI j).toInt64 = lN (T + j)
      rw [i9, nI_l hj, lN_add]
    · have : j ≤ 2147483648 := by omega
      rw [Nat.add_mul, Nat.one_mul]
      omega
  · exact hX.bad (k := 1) (by decide) (by unfold f_L_advance; rw [if_pos hC.1.1, X_advBad A hs]; rfl) (fun B hB => ⟨_, R_advBad hB.1 hs, RP.tt hB.2.2.1 hB.2.2.2.1 0 1⟩)
theorem op_setLimit (hT : ST A b) (hb : b < 512) (l m : Int32) : StI (f_L_setLimit A 100 l m 549) (fun B => f_X9_setLimit B 526 l m) b := by
  obtain ⟨t, v, ms, K, hX⟩ := hT
  obtain ⟨⟨hC, hR, hS, hD⟩, ⟨p, hI⟩, ho, hz⟩ := id hX
  obtain ⟨⟨i1, i2, i3, i4⟩, ⟨⟨l1, l2⟩, l3, l4⟩, ⟨i5, i6⟩, i7, i8, T, i9, i10⟩ := id hI
  have om := hX.om
  have ln := hX.len
  rcases ixN 2 (by omega) l with hl | ⟨k, hk, rfl⟩
  · exact hX.bad (k := 1) (by decide) (by unfold f_L_setLimit; rw [if_pos hC.1.1, X_limBad A m hl]; rfl) (fun B hB => ⟨_, R_limBad hB.1 m hl, RP.tt hB.2.2.1 hB.2.2.2.1 0 1⟩)
  · cases hm : (decide (nI 1 ≤ m) && decide (m ≤ nI 40)) with
    | false => exact hX.bad (k := 2) (by decide) (by unfold f_L_setLimit; rw [if_pos hC.1.1, X_limBad2 A (lk_in hk (by omega)) hm]; rfl) (fun B hB => ⟨_, R_limBad2 hB.1 (lk_in hk (by omega)) hm, RP.tt hB.2.2.1 hB.2.2.2.1 0 2⟩)
    | true =>
      rw [Bool.and_eq_true, decide_eq_true_eq, decide_eq_true_eq] at hm
      obtain ⟨j, hj, rfl⟩ := nI_of2 (x := m) (M := nI 40) (n := 40) (by decide) (fun z => by
        have := Int32.lt_of_lt_of_le z (Int32.le_trans (show (0 : Int32) ≤ nI 1 by decide) hm.1)
        exact absurd this Int32.lt_irrefl) hm.2
      have hj1 : 1 ≤ j := (nI_leI (by omega) (by omega)).mp hm.1
      obtain ⟨B, b1, b2, b3⟩ := X_lim hC hk ⟨hj1, hj⟩
      refine hX.ok b2 b3 (by unfold f_L_setLimit; rw [if_pos hC.1.1, b1]; exact out_ (hX.o b2)) (fun B' hB => by obtain ⟨C, c1, c2⟩ := R_lim hB.1 hB.2.2.1 hB.2.2.2.1 hk ⟨hj1, hj⟩; exact ⟨C, ms, c1, c2, p⟩) ?_
      obtain ⟨u1, u2, u3, u4⟩ := hX.up
      refine ⟨u1, ⟨?_, ?_⟩, u3, u4⟩
      · show 1 ≤ (if 0 = k then j else jL v 0) ∧ (if 0 = k then j else jL v 0) ≤ 40
        split <;> omega
      · show 1 ≤ (if 1 = k then j else jL v 1) ∧ (if 1 = k then j else jL v 1) ≤ 40
        split <;> omega
theorem op_setPolicy (hT : ST A b) (hb : b < 512) (l : Int32) : StI (f_L_setPolicy A 100 l 549) (fun B => f_X9_setPolicy B 526 l) b := by
  obtain ⟨t, v, ms, K, hX⟩ := hT
  obtain ⟨⟨hC, hR, hS, hD⟩, ⟨p, hI⟩, ho, hz⟩ := id hX
  rcases ixN 4 (by omega) l with hl | ⟨k, hk, rfl⟩
  · exact hX.bad (k := 1) (by decide) (by unfold f_L_setPolicy; rw [if_pos hC.1.1, X_polBad A hl]; rfl) (fun B hB => ⟨_, R_polBad hB.1 hl, RP.tt hB.2.2.1 hB.2.2.2.1 0 1⟩)
  · obtain ⟨B, b1, b2, b3⟩ := X_pol hC hk
    refine hX.ok b2 b3 (by unfold f_L_setPolicy; rw [if_pos hC.1.1, b1]; exact out_ (hX.o b2)) (fun B' hB => by obtain ⟨C, c1, c2⟩ := R_pol hB.1 hB.2.2.1 hB.2.2.2.1 hk; exact ⟨C, ms, c1, c2, p⟩) ?_
    obtain ⟨u1, u2, u3, u4⟩ := hX.up
    exact ⟨u1, u2, ⟨by show k ≤ 3; omega, u3.2⟩, u4⟩
theorem op_count (hT : ST A b) (hb : b < 512) (l : Int32) : StI (f_L_count A 100 l 549) (fun B => f_X9_count B 526 l) b := by
  obtain ⟨t, v, ms, K, hX⟩ := hT
  obtain ⟨⟨hC, hR, hS, hD⟩, ⟨p, hI⟩, ho, hz⟩ := id hX
  rcases ixN 7 (by omega) l with hl | ⟨k, hk, rfl⟩
  · exact hX.bad (k := 1) (by decide) (by unfold f_L_count; rw [if_pos hC.1.1, X_cntBad A hl]; rfl) (fun B hB => ⟨_, R_cntBad hB.1 hl, RP.tt hB.2.2.1 hB.2.2.2.1 0 1⟩)
  · exact hX.ok CE.rf hC (by unfold f_L_count; rw [if_pos hC.1.1, X_cnt hC hk]; exact out_ (hX.o CE.rf)) (hX.same (fun B' hB => R_cnt hB.1 hB.2.2.2.1 hk)) hX.up
theorem op_restore (hT : ST A b) (hb : b < 512) (l : Int32) : StI (f_L_restore A 100 l 549) (fun B => f_X9_restore B 526 l) b := by
  obtain ⟨t, v, ms, K, hX⟩ := hT
  obtain ⟨⟨hC, hR, hS, hD⟩, ⟨p, hI⟩, ho, hz⟩ := id hX
  rcases ixN 2 (by omega) l with hl | ⟨s, hs, rfl⟩
  · exact hX.bad (k := 1) (by decide) (by unfold f_L_restore; rw [if_pos hC.1.1, X_resBad hC hl]; rfl) (fun B hB => ⟨_, R_resBad hB.1 hl, RP.tt hB.2.2.1 hB.2.2.2.1 0 1⟩)
  · cases hk : K s with
    | none =>
      obtain ⟨z1, z2⟩ := hS.1 s hs hk
      have e0 := CE.mk hz 0 0
      have r0 := hR.ce e0 hz
      have z2' : hgI (hmk A 0 0) 1036 529 s = 0 := ((hS.ce e0 hz).1 s hs hk).2
      obtain ⟨g1, g2, -⟩ := hX.go e0 (hC.mk hz 0 0) (RP.tt r0.2.2.1 r0.2.2.2.1 0 2) p hX.up
      exact ⟨2, hmk A 0 0, 0, _, (by unfold f_L_restore; rw [if_pos hC.1.1, X_resNone hC hs z1]; rfl), r0.1.1, R_resNone r0.1 r0.2.2.2.2 hs z2', g2.1, by rw [thrown_ g2, thg], fun z => absurd z (by decide), g1⟩
    | some q =>
      obtain ⟨q, w, ns⟩ := q
      obtain ⟨⟨a1, a2, a3, f, a4⟩, a5, a6, a7, a8⟩ := hS.2 s q w ns hs hk
      obtain ⟨B, b1, b2, b3⟩ := X_res hC hs a1 a2 a4
      have e1 := b2.tr (CE.out (nI (jC w).length).toInt64)
      have r1 := hR.ce e1 hz
      obtain ⟨-, c5, c6, -⟩ := (hS.ce e1 hz).2 s q w ns hs hk
      obtain ⟨C, d1, d2⟩ := R_res r1.1 r1.2.2.2.2 r1.2.2.1 hs c5 c6
      obtain ⟨g1, g2, g3, g4⟩ := hX.go e1 (b3.out _) d2 a7 (a8.mo (by omega))
      refine ⟨0, _, _, C, (by unfold f_L_restore; rw [if_pos hC.1.1, b1]; exact out_ (hX.o b2)), r1.1.1, d1, g2.1, by rw [thrown_ g2, d2.2.1], fun _ => ⟨g3, ?_⟩, g1⟩
      rw [show (0 : Int32).toNatClampNeg = 0 by decide, g4, hgL_sL, if_pos ⟨rfl, rfl, rfl⟩, a7.length_eq]
theorem op_save (hT : ST A b) (hb : b < 512) (l : Int32) : StI (f_L_save A 100 l 549) (fun B => f_X9_save B 526 l) b := by
  obtain ⟨t, v, ms, K, hX⟩ := hT
  obtain ⟨⟨hC, hR, hS, hD⟩, ⟨p, hI⟩, ho, hz⟩ := id hX
  obtain ⟨⟨i1, i2, i3, i4⟩, ⟨⟨l1, l2⟩, l3, l4⟩, ⟨i5, i6⟩, i7, i8, T, i9, i10⟩ := id hI
  have om := hX.om
  have ln := hX.len
  rcases ixN 2 (by omega) l with hl | ⟨s, hs, rfl⟩
  · exact hX.bad (k := 1) (by decide) (by unfold f_L_save; rw [if_pos hC.1.1, X_savBad hC hl]; rfl) (fun B hB => ⟨_, R_savBad hB.1 hl, RP.tt hB.2.2.1 hB.2.2.2.1 0 1⟩)
  · -- the class: a jar at q that holds v; all else stays
    have cls : ∃ B q f, f_X8_save A 100 (nI s) = some (.inl (nI (jC v).length), B) ∧ (hsz A ≤ hsz B ∧ 550 ≤ q ∧ q + 409 ≤ hsz B) ∧ CSt B t v ∧ (hgR B 1038 525 s = q ∧ ∀ i, i ≠ s → hgR B 1038 525 i = hgR A 1038 525 i) ∧ Jr B q v f ∧ Ew (fun x => x = 525 ∨ jrP q x ∨ hsz A ≤ x) A B ∧ (∀ i q' w ns, i < 2 → i ≠ s → K i = some (q', w, ns) → q + 409 ≤ q' ∨ q' + 409 ≤ q) := by
      cases hk : K s with
      | none =>
        obtain ⟨z1, z2⟩ := hS.1 s hs hk
        obtain ⟨B, f, b1, b2, b3, b4, b5, b6, b7⟩ := X_sav0 hC hz hs z1
        refine ⟨B, hsz A, f, b1, ⟨by omega, by omega, by omega⟩, b7, ⟨by rw [b5, if_pos rfl], fun i hi => by rw [b5, if_neg hi]⟩, b6, b2.mo (fun x z => by
          rcases z with z | z
          · exact Or.inl z
          · exact Or.inr (Or.inr z)), fun i q' w ns hi hne hk' => ?_⟩
        have := (hS.2 i q' w ns hi hk').1.2.2.1
        omega
      | some q =>
        obtain ⟨q, w, ns⟩ := q
        obtain ⟨⟨a1, a2, a3, f, a4⟩, -⟩ := hS.2 s q w ns hs hk
        obtain ⟨B, b1, b2, b3, b4⟩ := X_sav1 hC hs a1 a2 a4
        have n5 : ¬ jrP q 525 := fun y => by have := y.1; omega
        refine ⟨B, q, f, b1, ⟨by rw [b2.2.2]; exact Nat.le_refl _, a2, by rw [b2.2.2]; exact a3⟩, b4, ⟨by rw [b2.R n5]; exact a1, fun i _ => b2.R n5 1038 i⟩, b3, b2.ew.mo (fun x z => Or.inr (Or.inl z)), fun i q' w' ns' hi hne hk' => ?_⟩
        match s, hs, i, hi with
        | 0, _, 1, _ => exact hD _ _ _ _ _ _ hk hk'
        | 1, _, 0, _ => have := hD _ _ _ _ _ _ hk' hk; omega
        | 0, _, 0, _ => exact absurd rfl hne
        | 1, _, 1, _ => exact absurd rfl hne
    obtain ⟨B, q, f, b1, ⟨z1, z2, z3⟩, b3, ⟨b4, b5⟩, b6, b7, b8⟩ := cls
    have nP : ∀ x, 526 ≤ x → x < 550 → ¬ (x = 525 ∨ jrP q x ∨ hsz A ≤ x) := fun x h1 h2 y => by
      rcases y with y | y | y
      · omega
      · have := y.1; omega
      · omega
    have o1 : hsh B 549 = (11, 1) := by rw [b7.S (nP _ (by omega) (by omega))]; exact ho
    have eO : Ew (fun x => x = 549) B (hsL B 1035 549 0 (nI (jC v).length).toInt64) := ea_L.ew
    have r1 : RSt (hsL B 1035 549 0 (nI (jC v).length).toInt64) t v ms := (hR.ew b7 (fun x h1 h2 => nP x h1 (by omega))).ew eO (fun x h1 h2 => by omega)
    have c1 : CSt (hsL B 1035 549 0 (nI (jC v).length).toInt64) t v := b3.out _
    have m1 : ∀ k, mu (hsL B 1035 549 0 (nI (jC v).length).toInt64) 526 k = mu A 526 k := fun k => (mu_ew eO (by omega) k).trans (mu_ew b7 (nP _ (by omega) (by omega)) k)
    have oB : hgL (hsL B 1035 549 0 (nI (jC v).length).toInt64) 1035 549 0 = (nI (jC v).length).toInt64 := by rw [hgL_sL, if_pos ⟨rfl, rfl, rfl⟩]
    have L1 : f_L_save A 100 (nI s) 549 = some (0, hsL B 1035 549 0 (nI (jC v).length).toInt64) := by
      unfold f_L_save
      rw [if_pos hC.1.1, b1]
      exact out_ o1
    have hE : Ew (fun x => (x = 525 ∨ jrP q x ∨ hsz A ≤ x) ∨ x = 549) A (hsL B 1035 549 0 (nI (jC v).length).toInt64) := (b7.mo (fun x z => Or.inl z)).tr (eO.mo (fun x z => Or.inr z))
    have jB : Jr (hsL B 1035 549 0 (nI (jC v).length).toInt64) q v f := b6.ew eO (fun x z y => by have := z.1; omega)
    have gS : hgR (hsL B 1035 549 0 (nI (jC v).length).toInt64) 1038 525 s = q := b4
    have gN : ∀ i, i ≠ s → hgR (hsL B 1035 549 0 (nI (jC v).length).toInt64) 1038 525 i = hgR A 1038 525 i := b5
    have hzB : hsz (hsL B 1035 549 0 (nI (jC v).length).toInt64) = hsz B := rfl
    have oB1 : hsh (hsL B 1035 549 0 (nI (jC v).length).toInt64) 549 = (11, 1) := o1
    generalize hsL B 1035 549 0 (nI (jC v).length).toInt64 = B1 at *
    obtain ⟨C, d1, d2, d3, d4, d5, d6, d7, d8, d9⟩ := R_sav r1.1 r1.2.2.2.2 r1.2.2.2.1 hs
    have nC : ∀ x, x ≠ 526 → x ≠ 528 → x ≠ 529 → ¬ (x = 526 ∨ x = 526 + 2 ∨ x = 526 + 3) := fun x h1 h2 h3 y => by omega
    have mC : ∀ k, mu C 526 k = mu B1 526 k := fun k => d2.L (nC 527 (by omega) (by omega) (by omega)) 1035 k
    have msC : Ms C 526 := ⟨by rw [d2.2.1]; exact r1.1.1, by rw [d3]; exact r1.1.2.1, by rw [d2.2.1]; exact r1.1.2.2⟩
    have rC : RSt C t v ms := by
      refine ⟨msC, fun k hk => ?_, ⟨by rw [d4 _ (by omega)]; exact r1.2.2.1.1, r1.2.2.1.2.1, r1.2.2.1.2.2.1.congr (fun k _ _ => mC k), r1.2.2.1.2.2.2⟩, r1.2.2.2.1.congr (fun k _ => mC k), by rw [d3]; exact r1.2.2.2.2.1, by rw [d2.2.1]; exact r1.2.2.2.2.2.1, by rw [d3]; exact r1.2.2.2.2.2.2.1, by rw [d2.2.1]; exact r1.2.2.2.2.2.2.2⟩
      obtain ⟨y1, y2, y3⟩ := r1.2.1 k hk
      exact ⟨by rw [d3]; exact y1, by rw [d2.2.1]; exact y2, fun i hi => by rw [d2.I (nC _ (by omega) (by omega) (by omega))]; exact y3 i hi⟩
    have n5 := nC 525 (by omega) (by omega) (by omega)
    have n9 := nC 549 (by omega) (by omega) (by omega)
    have ST' : ST C (b + 1) := by
      refine ⟨t, v, ms, fun i => if i = s then some (q, v, ms) else K i, ⟨c1.ew d2.ew (fun x h1 h2 => nC x (by omega) (by omega) (by omega)), rC, ⟨fun i hi hk => ?_, fun i q' w' ns' hi hk => ?_⟩, fun a w1 n1 a' w2 n2 k0 k1 => ?_⟩, ⟨p, hX.up⟩, by rw [d2.2.1]; exact oB1, by rw [d2.2.2, hzB]; omega⟩
      · have hk : (if i = s then some (q, v, ms) else K i) = none := hk
        have hne : i ≠ s := fun z => by rw [if_pos z] at hk; cases hk
        rw [if_neg hne] at hk
        obtain ⟨y1, y2⟩ := hS.1 i hi hk
        exact ⟨by rw [d2.R n5, gN i hne]; exact y1, by rw [show hgI C 1036 529 i = _ from d9 i hne, hE.I (fun z => by rcases z with z | z; exact nP 529 (by omega) (by omega) z; omega)]; exact y2⟩
      · have hk : (if i = s then some (q, v, ms) else K i) = some (q', w', ns') := hk
        by_cases hi2 : i = s
        · rw [if_pos hi2] at hk
          cases hk
          subst hi2
          exact ⟨⟨by rw [d2.R n5]; exact gS, z2, by rw [d2.2.2, hzB]; exact z3, f, jB.eq d2 (fun x z => nC x (by have := z.1; omega) (by have := z.1; omega) (by have := z.1; omega))⟩, d8, r1.2.2.2.1.congr d6, p, hX.up⟩
        · rw [if_neg hi2] at hk
          obtain ⟨⟨y1, y2, y3, f', y4⟩, y5, y6, y7, y8⟩ := hS.2 i q' w' ns' hi hk
          have dj := b8 i q' w' ns' hi hi2 hk
          have n28 : ¬ ((528 = 525 ∨ jrP q 528 ∨ hsz A ≤ 528) ∨ 528 = 549) := fun z => by rcases z with z | z; exact nP 528 (by omega) (by omega) z; omega
          exact ⟨⟨by rw [d2.R n5, gN i hi2]; exact y1, y2, by rw [d2.2.2, hzB]; omega, f', (y4.ew hE (fun x z y => by
              have := z.1
              have := z.2
              rcases y with (y | y | y) | y
              · omega
              · have := y.1; have := y.2; omega
              · omega
              · omega)).eq d2 (fun x z => nC x (by have := z.1; omega) (by have := z.1; omega) (by have := z.1; omega))⟩, by rw [show hgI C 1036 529 i = _ from d9 i hi2, hE.I (fun z => by rcases z with z | z; exact nP 529 (by omega) (by omega) z; omega)]; exact y5, y6.congr (fun k hk => (d7 _ (by omega)).trans (hE.L n28 1035 _)), y7, y8.mo (by omega)⟩
      · have k0 : (if 0 = s then some (q, v, ms) else K 0) = some (a, w1, n1) := k0
        have k1 : (if 1 = s then some (q, v, ms) else K 1) = some (a', w2, n2) := k1
        by_cases s0 : 0 = s
        · rw [if_pos s0] at k0
          rw [if_neg (by omega)] at k1
          cases k0
          exact b8 1 a' w2 n2 (by omega) (by omega) k1
        · rw [if_neg s0] at k0
          rw [if_pos (by omega)] at k1
          cases k1
          have := b8 0 a w1 n1 (by omega) (by omega) k0
          omega
    exact ⟨0, B1, _, C, L1, r1.1.1, d1, msC.1, by rw [thrown_ msC, d5], fun _ => ⟨by rw [d2.2.1]; exact oB1, by rw [show (0 : Int32).toNatClampNeg = 0 by decide, d2.L n9, oB, ln]⟩, ST'⟩
end
