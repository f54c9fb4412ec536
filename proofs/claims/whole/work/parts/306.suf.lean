/-! suffixes and addresses of the class -/
abbrev SL : Type := List (List Int32)
def pubF (d : List Int32) (st : Nat) (u : List Int32) : Nat := if dm d u then min st (d.length - u.length) else st
def pubS (us : SL) (d : List Int32) : Nat := us.foldl (pubF d) (labS d d.length)
def siteS (us : SL) (d : List Int32) : Nat := if pubS us d = 0 then 0 else labS d (pubS us d - 1)
theorem pubF_le {d u : List Int32} {st : Nat} (h : st ≤ d.length) : pubF d st u ≤ d.length := by
  unfold pubF; split <;> omega
theorem pubS_le' (us : SL) (d : List Int32) : ∀ st, st ≤ d.length → us.foldl (pubF d) st ≤ d.length := by
  induction us with
  | nil => intro st h; exact h
  | cons u us ih => intro st h; exact ih _ (pubF_le h)
theorem pubS_le (us : SL) (d : List Int32) : pubS us d ≤ d.length := pubS_le' us d _ (labS_le d _)
theorem siteS_le (us : SL) (d : List Int32) : siteS us d ≤ d.length := by
  unfold siteS
  split
  · exact Nat.zero_le _
  · have := labS_le d (pubS us d - 1)
    have := pubS_le us d
    omega
def sameSt (us : SL) (a b : List Int32) : Bool := decide (a.drop (siteS us a) = b.drop (siteS us b))
def sgn (us : SL) (i : Nat) : List Int32 := us.getD i []
/-- the suffixes' object at a -/
def Sx (A : Hp) (a : Nat) (us : SL) : Prop := ((hsh A a).1 = 6 ∧ hgR A 320 a 0 = a + 1 ∧ hsh A (a + 1) = (15, 6)) ∧ (∀ i, i < 6 → hgR A 1039 (a + 1) i = a + 2 + 2 * i) ∧ hgI A 321 a 0 = nI us.length ∧ us.length ≤ 6 ∧ (∀ i, i < us.length → Rw A (a + 2 + 2 * i) 30 (sgn us i)) ∧ ∀ i, i < 6 → ∃ s, Rw A (a + 2 + 2 * i) 30 s
def sxP (a : Nat) : Nat → Prop := fun q => a ≤ q ∧ q < a + 14
theorem Sx.eq {A B : Hp} {P : Nat → Prop} {a : Nat} {us : SL} (h : Sx A a us) (e : Eqx P A B) (hP : ∀ q, sxP a q → ¬ P q) : Sx B a us := by
  obtain ⟨⟨a1, a2, a3⟩, a4, a5, a6, a7, a8⟩ := h
  have p : ∀ q, a ≤ q → q < a + 14 → ¬ P q := fun q h1 h2 => hP q ⟨h1, h2⟩
  exact ⟨⟨by rw [e.2.1]; exact a1, by rw [e.R (p a (by omega) (by omega))]; exact a2, by rw [e.2.1]; exact a3⟩, fun i hi => by rw [e.R (p _ (by omega) (by omega))]; exact a4 i hi, by rw [e.I (p a (by omega) (by omega))]; exact a5, a6, fun i hi => (a7 i hi).eq e (p _ (by omega) (by omega)) (p _ (by omega) (by omega)), fun i hi => by obtain ⟨s, hs⟩ := a8 i hi; exact ⟨s, hs.eq e (p _ (by omega) (by omega)) (p _ (by omega) (by omega))⟩⟩
theorem sgn_drop {us : SL} {i : Nat} (h : i < us.length) : us.drop i = sgn us i :: us.drop (i + 1) := by
  unfold sgn
  rw [List.getD_eq_getElem?_getD, List.getElem?_eq_getElem h]
  exact List.drop_eq_getElem_cons h
theorem Sx.publicStart {A : Hp} {a r cap : Nat} {us : SL} {d : List Int32} (h : Sx A a us) (k : Rw A r cap d) (hd : d.length < 16000) : f_X7_publicStart A a r = some (nI (pubS us d)) := by
  obtain ⟨⟨a1, a2, a3⟩, a4, a5, a6, a7, a8⟩ := h
  have L : ∀ e i st fu, i + e = us.length → e < fu → st ≤ d.length → k_X7_publicStart_11 A a r fu (nI st) (nI i) = some (nI ((us.drop i).foldl (pubF d) st)) := by
    intro e
    induction e with
    | zero =>
      intro i st fu h1 h2 h3
      obtain ⟨fu, rfl⟩ : ∃ f, fu = f + 1 := ⟨fu - 1, by omega⟩
      show k_X7_publicStart_11s A a r _ _ _ = _
      unfold k_X7_publicStart_11s
      rw [if_pos a1, a5, if_pos (nI_le (by omega) (by omega)), List.drop_of_length_le (by omega)]
      rfl
    | succ e ih =>
      intro i st fu h1 h2 h3
      obtain ⟨fu, rfl⟩ : ∃ f, fu = f + 1 := ⟨fu - 1, by omega⟩
      show k_X7_publicStart_11s A a r _ _ _ = _
      have hR := a7 i (by omega)
      unfold k_X7_publicStart_11s k_X7_publicStart_51
      rw [if_pos a1, a5, if_neg (nI_ge (by omega) (by omega)), a2, a3, if_pos rfl, if_pos ((nI_wix (by omega)).mpr (show i < 6 by omega)), if_pos k.1.1, nI_clamp (by omega), a4 i (by omega), k.domainMatches hR hd (by have := hR.2.2.1; omega), Option.bind_some, nI_1, sgn_drop (by omega), List.foldl_cons, k.2.1, hR.2.1]
      cases hm : dm d (sgn us i)
      · rw [if_pos (by rfl), ih (i + 1) st fu (by omega) (by omega) h3]
        unfold pubF
        rw [hm]
        rfl
      · rw [if_neg (by decide), if_pos hR.1.1]
        have hl : (sgn us i).length ≤ d.length := by
          unfold dm at hm
          rw [Bool.and_eq_true, Bool.and_eq_true, decide_eq_true_iff] at hm
          exact hm.1.1
        have hmn : (if nI d.length - nI (sgn us i).length < nI st then nI d.length - nI (sgn us i).length else nI st) = nI (pubF d st (sgn us i)) := by
          unfold pubF
          rw [hm, pk_sub hl]
          by_cases q : d.length - (sgn us i).length < st
          · rw [if_pos (nI_lt q (by omega)), if_pos rfl, Nat.min_eq_right (by omega)]
          · rw [if_neg (nI_nlt (by omega) (by omega)), if_pos rfl, Nat.min_eq_left (by omega)]
        rw [hmn, ih (i + 1) _ fu (by omega) (by omega) (pubF_le h3)]
  unfold f_X7_publicStart pubS
  rw [if_pos k.1.1, k.2.1, k.labelStart hd, Option.bind_some]
  exact L us.length 0 _ FU (by omega) (by unfold FU; omega) (labS_le d _)
theorem Sx.siteStart {A : Hp} {a r cap : Nat} {us : SL} {d : List Int32} (h : Sx A a us) (k : Rw A r cap d) (hd : d.length < 16000) : f_X7_siteStart A a r = some (nI (siteS us d)) := by
  have hl := pubS_le us d
  unfold f_X7_siteStart siteS
  rw [if_pos h.1.1, h.publicStart k hd, Option.bind_some]
  by_cases h0 : pubS us d = 0
  · rw [if_pos (show nI (pubS us d) = 0 by rw [h0]; rfl), if_pos h0]
    rfl
  · rw [if_neg (nI_ne0 (by omega) (by omega)), if_neg h0, show nI (pubS us d) - (1 : Int32) = nI (pubS us d - 1) from pk_sub (b := 1) (by omega), k.labelStart (by omega)]
    rfl
theorem Sx.sameSites {A : Hp} {a r t cap cap' : Nat} {us : SL} {d e : List Int32} (h : Sx A a us) (k : Rw A r cap d) (k' : Rw A t cap' e) (hd : d.length < 16000) (he : e.length < 16000) : f_X7_sameSites A a r t = some (bI (sameSt us d e)) := by
  unfold f_X7_sameSites sameSt
  rw [if_pos h.1.1, h.siteStart k hd, Option.bind_some, h.siteStart k' he, Option.bind_some, if_pos k.1.1, k.sameTail k' hd he (siteS_le us d) (siteS_le us e), Option.bind_some, if_pos (bI_Z _)]
theorem Sx.isPublic {A : Hp} {a r cap : Nat} {us : SL} {d : List Int32} (h : Sx A a us) (k : Rw A r cap d) (hd : d.length < 16000) : f_X7_isPublic A a r = some (bI (decide (pubS us d = 0))) := by
  have hl := pubS_le us d
  unfold f_X7_isPublic
  rw [if_pos h.1.1, h.publicStart k hd, Option.bind_some, ifI]
  congr 2
  rw [decide_eq_decide]
  exact nI_eq (b := 0) (by omega) (by omega)
theorem Sx.has {A : Hp} {a r cap : Nat} {us : SL} {d : List Int32} (h : Sx A a us) (k : Rw A r cap d) (hd : d.length < 16000) : f_X7_has A a r = some (bI (decide (d ∈ us))) := by
  obtain ⟨⟨a1, a2, a3⟩, a4, a5, a6, a7, a8⟩ := h
  have L : ∀ e i fu, i + e = us.length → e < fu → k_X7_has_2 A a r fu (nI i) = some (bI (decide (d ∈ us.drop i))) := by
    intro e
    induction e with
    | zero =>
      intro i fu h1 h2
      obtain ⟨fu, rfl⟩ : ∃ f, fu = f + 1 := ⟨fu - 1, by omega⟩
      show k_X7_has_2s A a r _ _ = _
      unfold k_X7_has_2s
      rw [if_pos a1, a5, if_pos (nI_le (by omega) (by omega)), List.drop_of_length_le (by omega)]
      rfl
    | succ e ih =>
      intro i fu h1 h2
      obtain ⟨fu, rfl⟩ : ∃ f, fu = f + 1 := ⟨fu - 1, by omega⟩
      show k_X7_has_2s A a r _ _ = _
      have hR := a7 i (by omega)
      unfold k_X7_has_2s
      rw [if_pos a1, a5, if_neg (nI_ge (by omega) (by omega)), a2, a3, if_pos rfl, if_pos ((nI_wix (by omega)).mpr (show i < 6 by omega)), nI_clamp (by omega), a4 i (by omega), if_pos hR.1.1, hR.same k (by have := hR.2.2.1; omega) hd, Option.bind_some, nI_1, sgn_drop (by omega), ih (i + 1) fu (by omega) (by omega)]
      by_cases hq : sgn us i = d
      · rw [decide_eq_true hq, if_neg (by decide), decide_eq_true (by rw [hq]; exact List.mem_cons_self)]
        rfl
      · rw [decide_eq_false hq, if_pos (by rfl)]
        congr 2
        rw [decide_eq_decide, List.mem_cons]
        exact ⟨Or.inr, fun z => z.elim (fun z => absurd z.symm hq) id⟩
  unfold f_X7_has
  exact L us.length 0 FU (by omega) (by unfold FU; omega)
theorem sgn_app {us : SL} {d : List Int32} {i : Nat} (h : i < us.length) : sgn (us ++ [d]) i = sgn us i := by
  unfold sgn
  rw [List.getD_eq_getElem?_getD, List.getElem?_append_left h, ← List.getD_eq_getElem?_getD]
theorem Sx.append {A : Hp} {a r cap : Nat} {us : SL} {d : List Int32} (h : Sx A a us) (k : Rw A r cap d) (hr : ¬ sxP a r) (hd : d.length ≤ 30) (hl : us.length < 6) : ∃ B, f_X7_append A a r = some B ∧ Sx B a (us ++ [d]) ∧ Rw B r cap d ∧ Eqx (sxP a) A B := by
  obtain ⟨⟨a1, a2, a3⟩, a4, a5, a6, a7, a8⟩ := h
  have hne : ∀ i, i < 6 → r ≠ a + 2 + 2 * i := fun i hi z => hr ⟨by omega, by omega⟩
  obtain ⟨s0, hs0⟩ := a8 us.length hl
  obtain ⟨B, e1, e2, e3, e4⟩ := hs0.copy k (hne _ hl) (by omega) hd
  have e4' : Eqx (sxP a) A B := e4.mo (fun q hq => by rcases hq with z | z <;> (constructor <;> omega))
  have oth : ∀ i, i < 6 → ∀ s, Rw A (a + 2 + 2 * i) 30 s → i ≠ us.length → Rw B (a + 2 + 2 * i) 30 s := fun i hi s hs hq => hs0.ot hs (by omega) e4
  have e5 : Eqx (fun q => q = a) B (hsI B 321 a 0 (nI us.length + 1)) := Eqx.sI rfl
  refine ⟨hsI B 321 a 0 (nI us.length + 1), ?_, ?_, e3.eq e5 (fun z => hr ⟨by omega, by omega⟩) ?_, e4'.tr (e5.mo (fun q hq => by rw [hq]; constructor <;> omega))⟩
  · unfold f_X7_append
    rw [if_pos a1, a5, if_neg (show ¬ (6 : Int32) ≤ nI us.length from nI_ge (b := 6) hl (by omega)), a2, a3, if_pos rfl, if_pos ((nI_wix (by omega)).mpr hl), nI_clamp (by omega), a4 _ hl, if_pos hs0.1.1, e1, Option.bind_some, e4.2.1, if_pos a1, e4.I (fun z => by rcases z with z | z <;> omega), a5]
  · refine ⟨⟨by rw [hsh_sI, e4.2.1]; exact a1, by rw [hgR_sI, e4.R (fun z => by rcases z with z | z <;> omega)]; exact a2, by rw [hsh_sI, e4.2.1]; exact a3⟩, fun i hi => by rw [hgR_sI, e4.R (fun z => by rcases z with z | z <;> omega)]; exact a4 i hi, by rw [hgI_sI, if_pos ⟨rfl, rfl, rfl⟩, nI_1, List.length_append]; rfl, by rw [List.length_append]; exact hl, fun i hi => ?_, fun i hi => ?_⟩
    · rw [List.length_append] at hi
      have hi : i < us.length + 1 := hi
      refine Rw.eq ?_ e5 (by omega) (by omega)
      by_cases hq : i = us.length
      · subst hq
        have : sgn (us ++ [d]) us.length = d := by simp [sgn]
        rw [this]
        exact e2
      · rw [sgn_app (by omega)]
        exact oth i (by omega) _ (a7 i (by omega)) hq
    · by_cases hq : i = us.length
      · exact ⟨d, Rw.eq (by rw [hq]; exact e2) e5 (by omega) (by omega)⟩
      · obtain ⟨s, hs⟩ := a8 i hi
        exact ⟨s, Rw.eq (oth i hi s hs hq) e5 (by omega) (by omega)⟩
  · intro z
    have z : r + 1 = a := z
    have := k.1.2.2.1
    rw [z] at this
    rw [this] at a1
    cases a1
theorem Sx.become {A : Hp} {a b : Nat} {us vs : SL} (h : Sx A a us) (k : Sx A b vs) (hd : a + 14 ≤ b ∨ b + 14 ≤ a) : ∃ B, f_X7_become A a b = some B ∧ Sx B a vs ∧ Sx B b vs ∧ Eqx (sxP a) A B := by
  -- the rows up to i are those of b
  let I : Nat → Hp → Prop := fun i A => ((hsh A a).1 = 6 ∧ hgR A 320 a 0 = a + 1 ∧ hsh A (a + 1) = (15, 6)) ∧ (∀ i, i < 6 → hgR A 1039 (a + 1) i = a + 2 + 2 * i) ∧ hgI A 321 a 0 = nI vs.length ∧ (∀ j, j < i → Rw A (a + 2 + 2 * j) 30 (sgn vs j)) ∧ ∀ i, i < 6 → ∃ s, Rw A (a + 2 + 2 * i) 30 s
  have hv := k.2.2.2.1
  have L : ∀ e i fu A, i + e = vs.length → e < fu → I i A → Sx A b vs → ∃ B, k_X7_become_10 a b fu A (nI i) = some B ∧ I vs.length B ∧ Sx B b vs ∧ Eqx (sxP a) A B := by
    intro e
    induction e with
    | zero =>
      intro i fu A h1 h2 hI hk
      obtain ⟨fu, rfl⟩ : ∃ f, fu = f + 1 := ⟨fu - 1, by omega⟩
      have : i = vs.length := by omega
      subst this
      refine ⟨A, ?_, hI, hk, Eqx.rf⟩
      show k_X7_become_10s a b _ _ _ = _
      unfold k_X7_become_10s
      rw [if_pos hI.1.1, hI.2.2.1, if_pos Int32.le_rfl]
    | succ e ih =>
      intro i fu A h1 h2 hI hk
      obtain ⟨fu, rfl⟩ : ∃ f, fu = f + 1 := ⟨fu - 1, by omega⟩
      obtain ⟨⟨a1, a2, a3⟩, a4, a5, a7, a8⟩ := hI
      have hRb := hk.2.2.2.2.1 i (by omega)
      obtain ⟨s0, hs0⟩ := a8 i (by omega)
      obtain ⟨B, e1, e2, e3, e4⟩ := hs0.copy hRb (by omega) (by have := hRb.2.2.1; omega) hRb.2.2.1
      have e4' : Eqx (sxP a) A B := e4.mo (fun q hq => by rcases hq with z | z <;> (constructor <;> omega))
      have hI' : I (i + 1) B := by
        refine ⟨⟨by rw [e4.2.1]; exact a1, by rw [e4.R (fun z => by rcases z with z | z <;> omega)]; exact a2, by rw [e4.2.1]; exact a3⟩, fun j hj => by rw [e4.R (fun z => by rcases z with z | z <;> omega)]; exact a4 j hj, by rw [e4.I (fun z => by rcases z with z | z <;> omega)]; exact a5, fun j hj => ?_, fun j hj => ?_⟩
        · by_cases hq : j = i
          · rw [hq]; exact e2
          · exact hs0.ot (a7 j (by omega)) (by omega) e4
        · by_cases hq : j = i
          · exact ⟨_, by rw [hq]; exact e2⟩
          · obtain ⟨s, hs⟩ := a8 j hj
            exact ⟨s, hs0.ot hs (by omega) e4⟩
      obtain ⟨C, f1, f2, f3, f4⟩ := ih (i + 1) fu B (by omega) (by omega) hI' (hk.eq e4' (fun q z w => by have := z.1; have := z.2; have := w.1; have := w.2; omega))
      refine ⟨C, ?_, f2, f3, e4'.tr f4⟩
      show k_X7_become_10s a b _ _ _ = _
      unfold k_X7_become_10s
      rw [if_pos a1, a5, if_neg (nI_ge (by omega) (by omega)), a2, a3, if_pos rfl, if_pos ((nI_wix (by omega)).mpr (show i < 6 by omega)), if_pos hk.1.1, hk.1.2.1, hk.1.2.2, if_pos rfl, if_pos ((nI_wix (by omega)).mpr (show i < 6 by omega)), nI_clamp (by omega), a4 i (by omega), hk.2.1 i (by omega), if_pos hs0.1.1, e1, Option.bind_some, nI_1, f1]
  obtain ⟨⟨a1, a2, a3⟩, a4, a5, a6, a7, a8⟩ := h
  have e0 : Eqx (fun q => q = a) A (hsI A 321 a 0 (nI vs.length)) := Eqx.sI rfl
  have e0' : Eqx (sxP a) A (hsI A 321 a 0 (nI vs.length)) := Eqx.sI ⟨by omega, by omega⟩
  have hk0 := k.eq e0' (fun q z w => by have := z.1; have := z.2; have := w.1; have := w.2; omega)
  obtain ⟨C, f1, f2, f3, f4⟩ := L vs.length 0 FU (hsI A 321 a 0 (nI vs.length)) (by omega) (by unfold FU; omega) ⟨⟨a1, a2, a3⟩, a4, by rw [hgI_sI, if_pos ⟨rfl, rfl, rfl⟩], fun j hj => absurd hj (Nat.not_lt_zero j), fun j hj => by obtain ⟨s, hs⟩ := a8 j hj; exact ⟨s, hs.eq e0 (by omega) (by omega)⟩⟩ hk0
  refine ⟨C, ?_, ⟨f2.1, f2.2.1, f2.2.2.1, hv, f2.2.2.2.1, f2.2.2.2.2⟩, f3, e0'.tr f4⟩
  unfold f_X7_become
  rw [if_pos k.1.1, if_pos a1, k.2.2.1]
  exact f1
-- addresses: open, https, host, path
abbrev AdV : Type := Bool × Bool × List Int32 × List Int32
def Ad (A : Hp) (a : Nat) (v : AdV) : Prop := ((hsh A a).1 = 1 ∧ hgR A 0 a 0 = a + 1 ∧ hgR A 1 a 0 = a + 3) ∧ hgI A 2 a 0 = bI v.1 ∧ hgI A 3 a 0 = bI v.2.1 ∧ Rw A (a + 1) 30 v.2.2.1 ∧ Rw A (a + 3) 40 v.2.2.2
def adP (a : Nat) : Nat → Prop := fun q => a ≤ q ∧ q < a + 5
theorem Ad.eq {A B : Hp} {P : Nat → Prop} {a : Nat} {v : AdV} (h : Ad A a v) (e : Eqx P A B) (hP : ∀ q, adP a q → ¬ P q) : Ad B a v := by
  obtain ⟨⟨a1, a2, a3⟩, a4, a5, a6, a7⟩ := h
  have p : ∀ q, a ≤ q → q < a + 5 → ¬ P q := fun q h1 h2 => hP q ⟨h1, h2⟩
  exact ⟨⟨by rw [e.2.1]; exact a1, by rw [e.R (p a (by omega) (by omega))]; exact a2, by rw [e.R (p a (by omega) (by omega))]; exact a3⟩, by rw [e.I (p a (by omega) (by omega))]; exact a4, by rw [e.I (p a (by omega) (by omega))]; exact a5, a6.eq e (p _ (by omega) (by omega)) (p _ (by omega) (by omega)), a7.eq e (p _ (by omega) (by omega)) (p _ (by omega) (by omega))⟩
theorem wZ_b {x : Int32} {b : Bool} (h : x = bI b) : wZ x := by rw [h]; exact bI_Z b
theorem Ad.become {A : Hp} {a b : Nat} {v w : AdV} (h : Ad A a v) (k : Ad A b w) (hd : a + 5 ≤ b ∨ b + 5 ≤ a) : ∃ B, f_X0_become A a b = some B ∧ Ad B a w ∧ Ad B b w ∧ Eqx (adP a) A B := by
  obtain ⟨⟨a1, a2, a3⟩, a4, a5, a6, a7⟩ := h
  have k0 := k
  obtain ⟨⟨b1, b2, b3⟩, b4, b5, b6, b7⟩ := k
  obtain ⟨B, e1, e2, e3, e4⟩ := a6.copy b6 (by omega) (by have := b6.2.2.1; omega) b6.2.2.1
  have e4' : Eqx (adP a) A B := e4.mo (fun q hq => by rcases hq with z | z <;> (constructor <;> omega))
  have kB := k0.eq e4' (fun q z w => by have := z.1; have := z.2; have := w.1; have := w.2; omega)
  have a7B := a6.ot a7 (by omega) e4
  obtain ⟨C, f1, f2, f3, f4⟩ := a7B.copy kB.2.2.2.2 (by omega) (by have := b7.2.2.1; omega) b7.2.2.1
  have f4' : Eqx (adP a) B C := f4.mo (fun q hq => by rcases hq with z | z <;> (constructor <;> omega))
  have kC := kB.eq f4' (fun q z w => by have := z.1; have := z.2; have := w.1; have := w.2; omega)
  have a6C := a7B.ot e2 (by omega) f4
  have g1 : Eqx (fun q => q = a) C (hsI C 2 a 0 (bI w.1)) := Eqx.sI rfl
  have g2 : Eqx (fun q => q = a) (hsI C 2 a 0 (bI w.1)) (hsI (hsI C 2 a 0 (bI w.1)) 3 a 0 (bI w.2.1)) := Eqx.sI rfl
  have g3 := g1.tr g2
  have g3' : Eqx (adP a) C (hsI (hsI C 2 a 0 (bI w.1)) 3 a 0 (bI w.2.1)) := g3.mo (fun q hq => by rw [hq]; constructor <;> omega)
  refine ⟨hsI (hsI C 2 a 0 (bI w.1)) 3 a 0 (bI w.2.1), ?_, ?_, kC.eq g3' (fun q z w => by have := z.1; have := z.2; have := w.1; have := w.2; omega), (e4'.tr f4').tr g3'⟩
  · unfold f_X0_become
    have n1 : ¬ rP (a + 1) a := fun z => by rcases z with z | z <;> omega
    have n2 : ¬ rP (a + 3) a := fun z => by rcases z with z | z <;> omega
    rw [if_pos a1, if_pos b1, a2, if_pos a6.1.1, b2, e1, Option.bind_some, e4.2.1 a, if_pos a1, e4.2.1 b, if_pos b1, e4.R n1, a3, if_pos a7B.1.1, kB.1.2.2, f1, Option.bind_some, f4.2.1 b, if_pos kB.1.1, f4.2.1 a, e4.2.1 a, if_pos a1, kC.2.1, if_pos (bI_Z _), show hgI (hsI C 2 a 0 (bI w.1)) 3 b 0 = bI w.2.1 by rw [hgI_sI, if_neg (by omega)]; exact kC.2.2.1, if_pos (bI_Z _)]
  · have n1 : ¬ rP (a + 1) a := fun z => by rcases z with z | z <;> omega
    have n2 : ¬ rP (a + 3) a := fun z => by rcases z with z | z <;> omega
    refine ⟨⟨by rw [hsh_sI, hsh_sI, f4.2.1, e4.2.1]; exact a1, by rw [hgR_sI, hgR_sI, f4.R n2, e4.R n1]; exact a2, by rw [hgR_sI, hgR_sI, f4.R n2, e4.R n1]; exact a3⟩, by rw [hgI_sI, if_neg (by omega), hgI_sI, if_pos ⟨rfl, rfl, rfl⟩], by rw [hgI_sI, if_pos ⟨rfl, rfl, rfl⟩], a6C.eq g3 (by omega) (by omega), f2.eq g3 (by omega) (by omega)⟩
