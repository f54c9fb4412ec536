/-! rows: comparing -/
def scmp : List Int32 → List Int32 → Int32
  | [], [] => 0
  | [], _ :: _ => -1
  | _ :: _, [] => 1
  | a :: s, b :: t => if a = b then scmp s t else if a < b then -1 else 1
theorem scmp_0 : ∀ {s t : List Int32}, scmp s t = 0 ↔ s = t := by
  intro s
  induction s with
  | nil =>
    intro t
    cases t with
    | nil => exact ⟨fun _ => rfl, fun _ => rfl⟩
    | cons b t => exact ⟨fun h => absurd h (by show (-1 : Int32) ≠ 0; decide), fun h => by cases h⟩
  | cons a s ih =>
    intro t
    cases t with
    | nil => exact ⟨fun h => absurd h (by show (1 : Int32) ≠ 0; decide), fun h => by cases h⟩
    | cons b t =>
      show (if a = b then scmp s t else if a < b then -1 else 1) = 0 ↔ _
      by_cases hab : a = b
      · rw [if_pos hab, ih, hab]
        exact ⟨fun h => by rw [h], fun h => (List.cons.inj h).2⟩
      · rw [if_neg hab]
        refine ⟨fun h => ?_, fun h => absurd (List.cons.inj h).1 hab⟩
        by_cases hl : a < b
        · rw [if_pos hl] at h; exact absurd h (by decide)
        · rw [if_neg hl] at h; exact absurd h (by decide)
theorem icmp_ {A : Hp} (x y : Int32) : f_J6_compare_7cf53 A x y = some (if x = y then 0 else if x < y then -1 else 1) := by
  unfold f_J6_compare_7cf53
  by_cases h : x = y
  · rw [if_pos (by rw [h]; exact Int32.le_rfl), if_pos h, if_pos h]
  · rw [if_neg h, if_neg h]
    by_cases hl : x < y
    · rw [if_neg (Int32.not_le.mpr hl), if_pos hl]
    · rw [if_pos (Int32.not_lt.mp hl), if_neg hl]
theorem lcmp_ {A : Hp} (x y : Int64) : f_J13_compare_74951 A x y = some (if x = y then 0 else if x < y then -1 else 1) := by
  unfold f_J13_compare_74951
  by_cases h : x = y
  · rw [if_pos (by rw [h]; exact Int64.le_rfl), if_pos h, if_pos h]
  · rw [if_neg h, if_neg h]
    by_cases hl : x < y
    · rw [if_neg (Int64.not_le.mpr hl), if_pos hl]
    · rw [if_pos (Int64.not_lt.mp hl), if_neg hl]
theorem nI_sub_toInt {a b : Nat} (ha : a < 2 ^ 30) (hb : b < 2 ^ 30) : (nI a - nI b).toInt = (a : Int) - b := by
  rw [Int32.toInt_sub, nI_toInt (by omega), nI_toInt (by omega)]
  apply Int.bmod_eq_of_le <;> omega
theorem nI_sneg {a b : Nat} (h : a < b) (hb : b < 2 ^ 30) : nI a - nI b < 0 := by
  rw [Int32.lt_iff_toInt_lt, nI_sub_toInt (by omega) hb, Int32.toInt_zero]
  omega
theorem drop_g {s : List Int32} {i : Nat} (h : i < s.length) : s.drop i = g s i :: s.drop (i + 1) := by
  rw [g_lt h]; exact List.drop_eq_getElem_cons h
theorem Rw.compareParts {A : Hp} {r t cap cap' : Nat} {s u : List Int32} (h : Rw A r cap s) (k : Rw A t cap' u) {a b c d : Nat} (hab : a ≤ b) (hb : b ≤ s.length) (hcd : c ≤ d) (hd : d ≤ u.length) (hbs : b < 16000) (hds : d < 16000) : f_X6_compareParts A r (nI a) (nI b) t (nI c) (nI d) = some (scmp (sub s a b) (sub u c d)) := by
  have l1 : (sub s a b).length = b - a := by rw [sub_len]; omega
  have l2 : (sub u c d).length = d - c := by rw [sub_len]; omega
  have L : ∀ e i fu, i + e = min (b - a) (d - c) → e < fu → k_X6_compareParts_16 A r (nI a) (nI b) t (nI c) (nI d) (nI (min (b - a) (d - c))) fu (nI i) = some (scmp ((sub s a b).drop i) ((sub u c d).drop i)) := by
    intro e
    induction e with
    | zero =>
      intro i fu h1 h2
      obtain ⟨fu, rfl⟩ : ∃ f, fu = f + 1 := ⟨fu - 1, by omega⟩
      show k_X6_compareParts_16s A r _ _ t _ _ _ _ _ = _
      unfold k_X6_compareParts_16s
      have : i = min (b - a) (d - c) := by omega
      subst this
      rw [if_pos Int32.le_rfl, icmp_, Option.bind_some, pk_sub hab, pk_sub hcd]
      congr 1
      rcases Nat.lt_trichotomy (b - a) (d - c) with q | q | q
      · rw [if_neg (fun z => by have := (nI_eq (by omega) (by omega)).mp z; omega), if_pos (nI_lt q (by omega)), Nat.min_eq_left (by omega), List.drop_of_length_le (by omega), drop_g (by omega)]
        rfl
      · rw [if_pos (by rw [q]), Nat.min_eq_left (by omega), List.drop_of_length_le (by omega), List.drop_of_length_le (by omega)]
        rfl
      · rw [if_neg (fun z => by have := (nI_eq (by omega) (by omega)).mp z; omega), if_neg (nI_nlt (by omega) (by omega)), Nat.min_eq_right (by omega), List.drop_of_length_le (l := sub u c d) (by omega), drop_g (by omega)]
        rfl
    | succ e ih =>
      intro i fu h1 h2
      obtain ⟨fu, rfl⟩ : ∃ f, fu = f + 1 := ⟨fu - 1, by omega⟩
      show k_X6_compareParts_16s A r _ _ t _ _ _ _ _ = _
      unfold k_X6_compareParts_16s
      rw [if_neg (nI_ge (by omega) (by omega)), if_pos h.1.1, nI_add, h.at (by omega), Option.bind_some, if_pos k.1.1, nI_add, k.at (by omega), Option.bind_some, icmp_, Option.bind_some, nI_1, ih (i + 1) fu (by omega) (by omega), drop_g (s := sub s a b) (i := i) (by omega), drop_g (s := sub u c d) (i := i) (by omega), sub_g (by omega), sub_g (by omega)]
      show _ = some (if g s (a + i) = g u (c + i) then _ else _)
      by_cases hq : g s (a + i) = g u (c + i)
      · rw [if_pos hq, if_pos hq, if_pos rfl]
      · rw [if_neg hq, if_neg hq]
        by_cases hl : g s (a + i) < g u (c + i)
        · rw [if_pos hl, if_neg (by decide)]
        · rw [if_neg hl, if_neg (by decide)]
  unfold f_X6_compareParts
  have hm : (if nI d - nI c < nI b - nI a then nI d - nI c else nI b - nI a) = nI (min (b - a) (d - c)) := by
    rw [pk_sub hab, pk_sub hcd]
    by_cases q : d - c < b - a
    · rw [if_pos (nI_lt q (by omega)), Nat.min_eq_right (by omega)]
    · rw [if_neg (nI_nlt (by omega) (by omega)), Nat.min_eq_left (by omega)]
  rw [hm]
  have := L (min (b - a) (d - c)) 0 FU (by omega) (by unfold FU; omega)
  exact this
theorem Rw.compare {A : Hp} {r t cap cap' : Nat} {s u : List Int32} (h : Rw A r cap s) (k : Rw A t cap' u) (hs : s.length < 16000) (hu : u.length < 16000) : f_X6_compare A r t = some (scmp s u) := by
  unfold f_X6_compare
  rw [if_pos h.1.1, if_pos k.1.1, h.2.1, k.2.1]
  show (f_X6_compareParts A r (nI 0) _ t (nI 0) _).bind _ = _
  rw [h.compareParts k (Nat.zero_le _) (Nat.le_refl _) (Nat.zero_le _) (Nat.le_refl _) hs hu, Option.bind_some, sub_all, sub_all]
theorem Rw.same {A : Hp} {r t cap cap' : Nat} {s u : List Int32} (h : Rw A r cap s) (k : Rw A t cap' u) (hs : s.length < 16000) (hu : u.length < 16000) : f_X6_same A r t = some (bI (decide (s = u))) := by
  unfold f_X6_same
  rw [if_pos h.1.1, if_pos k.1.1, h.2.1, k.2.1]
  show (f_X6_compareParts A r (nI 0) _ t (nI 0) _).bind _ = _
  rw [h.compareParts k (Nat.zero_le _) (Nat.le_refl _) (Nat.zero_le _) (Nat.le_refl _) hs hu, Option.bind_some, sub_all, sub_all, ifI]
  congr 2
  rw [decide_eq_decide]
  exact scmp_0
theorem Rw.sameTail {A : Hp} {r t cap cap' : Nat} {s u : List Int32} (h : Rw A r cap s) (k : Rw A t cap' u) (hs : s.length < 16000) (hu : u.length < 16000) {a b : Nat} (ha : a ≤ s.length) (hb : b ≤ u.length) : f_X6_sameTail A r (nI a) t (nI b) = some (bI (decide (s.drop a = u.drop b))) := by
  unfold f_X6_sameTail
  rw [if_pos h.1.1, if_pos k.1.1, h.2.1, k.2.1, h.compareParts k ha (Nat.le_refl _) hb (Nat.le_refl _) hs hu, Option.bind_some, ifI]
  congr 2
  rw [decide_eq_decide]
  unfold sub
  rw [List.take_length, List.take_length]
  exact scmp_0
/-- d is e, or ends with a dot and e -/
def dm (d e : List Int32) : Bool := decide (e.length ≤ d.length) && (decide (e.length = d.length) || decide (g d (d.length - e.length - 1) = 46)) && decide (d.drop (d.length - e.length) = e)
theorem drop_iff {d e : List Int32} (h : e.length ≤ d.length) : d.drop (d.length - e.length) = e ↔ ∀ k, k < e.length → g d (d.length - e.length + k) = g e k := by
  constructor
  · intro q k hk
    rw [← congrArg (fun z => g z k) q]
    simp [g]
  · intro q
    apply List.ext_getElem
    · rw [List.length_drop]; omega
    · intro i h1 h2
      have := q i h2
      rw [g_lt h2, g_lt (by omega)] at this
      rw [List.getElem_drop, this]
theorem Rw.domainMatches {A : Hp} {r t cap cap' : Nat} {s u : List Int32} (h : Rw A r cap s) (k : Rw A t cap' u) (hs : s.length < 16000) (hu : u.length < 16000) : f_X6_domainMatches A r t = some (bI (dm s u)) := by
  have L : ∀ (f : Nat), f + u.length = s.length → ∀ e i fu, f + i + e = s.length → e < fu → k_X6_domainMatches_34 A r t (nI f) fu (nI (f + i)) = some (bI (decide (∀ j, j < u.length → i ≤ j → g s (f + j) = g u j))) := by
    intro f hf e
    induction e with
    | zero =>
      intro i fu h1 h2
      obtain ⟨fu, rfl⟩ : ∃ f, fu = f + 1 := ⟨fu - 1, by omega⟩
      show k_X6_domainMatches_34s A r t _ _ _ = _
      unfold k_X6_domainMatches_34s
      rw [if_pos h.1.1, h.2.1, if_pos (nI_le (by omega) (by omega)), decide_eq_true (fun j a b => by omega)]
      rfl
    | succ e ih =>
      intro i fu h1 h2
      obtain ⟨fu, rfl⟩ : ∃ f, fu = f + 1 := ⟨fu - 1, by omega⟩
      show k_X6_domainMatches_34s A r t _ _ _ = _
      unfold k_X6_domainMatches_34s
      rw [if_pos h.1.1, h.2.1, if_neg (nI_ge (by omega) (by omega)), h.at (by omega), Option.bind_some, if_pos k.1.1, pk_sub (by omega), k.at (by omega), Option.bind_some, nI_1, show f + i + 1 = f + (i + 1) by omega, ih (i + 1) fu (by omega) (by omega), show f + i - f = i by omega]
      by_cases hq : g s (f + i) = g u i
      · rw [if_pos hq]
        congr 2
        rw [decide_eq_decide]
        constructor
        · intro z j b a
          by_cases hj : j = i
          · rw [hj]; exact hq
          · exact z j b (by omega)
        · intro z j b a
          exact z j b (by omega)
      · rw [if_neg hq, decide_eq_false (fun z => hq (z i (by omega) (Nat.le_refl _)))]
        rfl
  unfold f_X6_domainMatches
  rw [if_pos h.1.1, if_pos k.1.1, h.2.1, k.2.1]
  unfold dm
  by_cases hl : u.length ≤ s.length
  · rw [pk_sub hl, if_neg (nI_pos (by omega)), decide_eq_true hl, Bool.true_and]
    have e1 := L (s.length - u.length) (by omega) u.length 0 FU (by omega) (by unfold FU; omega)
    have e2 : k_X6_domainMatches_32 A r t (nI (s.length - u.length)) = some (bI (decide (s.drop (s.length - u.length) = u))) := by
      unfold k_X6_domainMatches_32
      rw [Nat.add_zero] at e1
      rw [e1]
      congr 2
      rw [decide_eq_decide, drop_iff hl]
      exact ⟨fun z j hj => z j hj (Nat.zero_le _), fun z j hj _ => z j hj⟩
    rw [e2]
    by_cases h0 : u.length = s.length
    · rw [if_pos (by rw [h0, Nat.sub_self]; exact Int32.le_rfl), decide_eq_true h0, Bool.true_or, Bool.true_and]
    · rw [if_neg (nI_nle (by omega) (by omega)), decide_eq_false h0, Bool.false_or]
      rw [show nI (s.length - u.length) - (1 : Int32) = nI (s.length - u.length - 1) from pk_sub (a := s.length - u.length) (b := 1) (by omega), h.at (by omega), Option.bind_some]
      by_cases hq : g s (s.length - u.length - 1) = 46
      · rw [if_pos hq, decide_eq_true hq, Bool.true_and]
      · rw [if_neg hq, decide_eq_false hq, Bool.false_and]
        rfl
  · rw [decide_eq_false hl, Bool.false_and, Bool.false_and, if_pos]
    · rfl
    · exact nI_sneg (by omega) (by omega)
