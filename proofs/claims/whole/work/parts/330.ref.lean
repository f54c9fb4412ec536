/-! the reference: its row m and the strings in it -/
theorem i64_inj {a b : Int32} : a.toInt64 = b.toInt64 ↔ a = b := by
  rw [← Int64.toInt_inj, Int32.toInt_toInt64, Int32.toInt_toInt64, Int32.toInt_inj]
theorem i64_lt {a b : Int32} : a.toInt64 < b.toInt64 ↔ a < b := by
  rw [Int64.lt_iff_toInt_lt, Int32.toInt_toInt64, Int32.toInt_toInt64, Int32.lt_iff_toInt_lt]
theorem i64_le {a b : Int32} : a.toInt64 ≤ b.toInt64 ↔ a ≤ b := by
  rw [Int64.le_iff_toInt_le, Int32.toInt_toInt64, Int32.toInt_toInt64, Int32.le_iff_toInt_le]
theorem cq (n : Nat) (hn : n < 2 ^ 31) {c : Int32} : c.toInt64 = lN n ↔ c = nI n := by
  rw [← nI_l hn, i64_inj]
theorem in_ {A : Hp} (x y z : Int64) : f_X9_in A x y z = some (bI (decide (y ≤ x ∧ x ≤ z))) := by
  unfold f_X9_in
  by_cases h1 : x < y
  · rw [if_pos h1, decide_eq_false (fun q => Int64.not_le.mpr h1 q.1)]; rfl
  · rw [if_neg h1]
    by_cases h2 : z < x
    · rw [if_pos h2, decide_eq_false (fun q => Int64.not_le.mpr h2 q.2)]; rfl
    · rw [if_neg h2, decide_eq_true ⟨Int64.not_lt.mp h1, Int64.not_lt.mp h2⟩]; rfl
theorem inc_ {A : Hp} (c : Int32) (a b : Nat) (ha : a < 2 ^ 31) (hb : b < 2 ^ 31) : f_X9_in A c.toInt64 (lN a) (lN b) = some (bI (decide (nI a ≤ c) && decide (c ≤ nI b))) := by
  rw [in_, ← nI_l ha, ← nI_l hb, ← Bool.decide_and]
  congr 2
  rw [decide_eq_decide, i64_le, i64_le]
theorem inn_ {A : Hp} {n a b : Nat} (hn : n < 2 ^ 31) (ha : a < 2 ^ 31) (hb : b < 2 ^ 31) : f_X9_in A (lN n) (lN a) (lN b) = some (bI (decide (a ≤ n ∧ n ≤ b))) := by
  rw [in_]
  congr 2
  rw [decide_eq_decide, lN_le ha hn, lN_le hn hb]
def Ms (A : Hp) (M : Nat) : Prop := (hsh A M).1 = 8 ∧ hgR A 448 M 0 = M + 1 ∧ hsh A (M + 1) = (11, 9000)
def Sg (μ : Nat → Int64) (a : Nat) (s : List Int32) : Prop := ∀ i, i < s.length → μ (a + i) = (g s i).toInt64
abbrev mu (A : Hp) (M : Nat) : Nat → Int64 := fun k => hgL A 1035 (M + 1) k
theorem Sg.congr {μ ν : Nat → Int64} {a : Nat} {s : List Int32} (h : Sg μ a s) (e : ∀ k, a ≤ k → k < a + s.length → ν k = μ k) : Sg ν a s := fun i hi => by
  rw [e _ (by omega) (by omega)]; exact h i hi
theorem Sg.drop {μ : Nat → Int64} {a : Nat} {s : List Int32} (h : Sg μ a s) (n : Nat) : Sg μ (a + n) (s.drop n) := fun i hi => by
  rw [List.length_drop] at hi
  rw [Nat.add_assoc, h (n + i) (by omega)]
  simp only [g, List.getD_eq_getElem?_getD, List.getElem?_drop]
theorem Sg.take {μ : Nat → Int64} {a : Nat} {s : List Int32} (h : Sg μ a s) (n : Nat) : Sg μ a (s.take n) := fun i hi => by
  rw [List.length_take] at hi
  rw [h i (by omega)]
  simp only [g, List.getD_eq_getElem?_getD]
  rw [List.getElem?_take_of_lt (by omega)]
theorem Sg.sub {μ : Nat → Int64} {a : Nat} {s : List Int32} (h : Sg μ a s) (i j : Nat) : Sg μ (a + i) (sub s i j) := (h.take j).drop i
theorem Sg.nil {μ : Nat → Int64} {a : Nat} : Sg μ a [] := fun i hi => absurd hi (Nat.not_lt_zero i)
section
variable {A : Hp} {M a b : Nat} {s u : List Int32}
/-- reading of a cell -/
theorem Ms.gd (h : Ms A M) {α : Type} {i : Nat} (hi : i < 9000) (E : Option α) : (if (hsh A M).1 = 8 then if (hsh A (hgR A 448 M 0)).1 = 11 then if wix (nI i) (hsh A (hgR A 448 M 0)).2 then E else none else none else none) = E := by
  rw [if_pos h.1, h.2.1, h.2.2, if_pos rfl, if_pos ((nI_wix (by omega)).mpr hi)]
theorem Ms.wx (h : Ms A M) {i : Nat} (hi : i < 9000) : wix (nI i) (hsh A (hgR A 448 M 0)).2 := by
  rw [h.2.1, h.2.2]; exact (nI_wix (by omega)).mpr hi
theorem Ms.a11 (h : Ms A M) : (hsh A (hgR A 448 M 0)).1 = 11 := by rw [h.2.1, h.2.2]
theorem Ms.vl (h : Ms A M) {i : Nat} (hi : i < 9000) : hgL A 1035 (hgR A 448 M 0) (nI i).toNatClampNeg = mu A M i := by
  rw [h.2.1, nI_clamp (by omega)]
theorem Ms.areLikeL (h : Ms A M) (hs : Sg (mu A M) a s) (hu : Sg (mu A M) b u) (ha : a + s.length ≤ 9000) (hb : b + u.length ≤ 9000) : ∀ e i fu (x : Bool), i + e = s.length → e < fu → (x = true → s.length = u.length) → k_X9_areLike_16 A M (nI a) (nI s.length) (nI b) fu (bI x) (nI i) = some (bI (x && decide (s.drop i = u.drop i))) := by
  intro e
  induction e with
  | zero =>
    intro i fu x h1 h2 h3
    obtain ⟨fu, rfl⟩ : ∃ f, fu = f + 1 := ⟨fu - 1, by omega⟩
    show k_X9_areLike_16s A M _ _ _ _ _ _ = _
    unfold k_X9_areLike_16s
    have : i = s.length := by omega
    subst this
    rw [if_pos Int32.le_rfl, if_pos (bI_Z x)]
    cases x
    · rfl
    · rw [List.drop_of_length_le (Nat.le_refl _), List.drop_of_length_le (by rw [h3 rfl]; exact Nat.le_refl _)]; rfl
  | succ e ih =>
    intro i fu x h1 h2 h3
    obtain ⟨fu, rfl⟩ : ∃ f, fu = f + 1 := ⟨fu - 1, by omega⟩
    show k_X9_areLike_16s A M _ _ _ _ _ _ = _
    unfold k_X9_areLike_16s k_X9_areLike_54
    rw [if_neg (nI_ge (by omega) (by omega))]
    cases x
    · rw [if_pos (by rfl), if_pos (bI_Z false)]; rfl
    · have hl := h3 rfl
      rw [if_neg (by decide), nI_add, nI_add, h.gd (by omega), if_pos (h.wx (by omega)), h.vl (by omega), h.vl (by omega), show mu A M (a + i) = _ from hs i (by omega), show mu A M (b + i) = _ from hu i (by omega), nI_1, drop_g (s := s) (i := i) (by omega), drop_g (s := u) (i := i) (by omega)]
      by_cases hq : g s i = g u i
      · rw [if_pos (by rw [hq]), show (1 : Int32) = bI true from rfl, ih (i + 1) fu true (by omega) (by omega) (fun _ => hl), hq]
        congr 2
        rw [Bool.true_and, Bool.true_and, decide_eq_decide]
        exact ⟨fun z => by rw [z], fun z => (List.cons.inj z).2⟩
      · rw [if_neg (fun z => hq (i64_inj.mp z)), show (0 : Int32) = bI false from rfl, ih (i + 1) fu false (by omega) (by omega) (fun z => by cases z), Bool.false_and, Bool.true_and, decide_eq_false (fun z => hq (List.cons.inj z).1)]
theorem Ms.areLike (h : Ms A M) (hs : Sg (mu A M) a s) (hu : Sg (mu A M) b u) (ha : a + s.length ≤ 9000) (hb : b + u.length ≤ 9000) : f_X9_areLike A M (nI a) (nI s.length) (nI b) (nI u.length) = some (bI (decide (s = u))) := by
  unfold f_X9_areLike k_X9_areLike_11
  by_cases hl : s.length = u.length
  · have := h.areLikeL hs hu ha hb s.length 0 FU true (by omega) (by unfold FU; omega) (fun _ => hl)
    rw [if_pos (by rw [hl])]
    refine Eq.trans this ?_
    rw [Bool.true_and]
    rfl
  · have := h.areLikeL hs hu ha hb s.length 0 FU false (by omega) (by unfold FU; omega) (fun z => by cases z)
    rw [if_neg (fun z => hl ((nI_eq (by omega) (by omega)).mp z))]
    refine Eq.trans this ?_
    rw [Bool.false_and, decide_eq_false (fun z => hl (by rw [z]))]
theorem Ms.ordered (h : Ms A M) (hs : Sg (mu A M) a s) (hu : Sg (mu A M) b u) (ha : a + s.length ≤ 9000) (hb : b + u.length ≤ 9000) : f_X9_ordered A M (nI a) (nI s.length) (nI b) (nI u.length) = some (scmp s u) := by
  have L : ∀ e i fu, i + e = s.length → e < fu → i ≤ u.length → k_X9_ordered_3 A M (nI a) (nI s.length) (nI b) (nI u.length) fu (nI i) = some (scmp (s.drop i) (u.drop i)) := by
    intro e
    induction e with
    | zero =>
      intro i fu h1 h2 h3
      obtain ⟨fu, rfl⟩ : ∃ f, fu = f + 1 := ⟨fu - 1, by omega⟩
      show k_X9_ordered_3s A M _ _ _ _ _ _ = _
      unfold k_X9_ordered_3s k_X9_ordered_72
      rw [if_pos (nI_le (by omega) (by omega)), List.drop_of_length_le (l := s) (by omega)]
      by_cases q : s.length = u.length
      · rw [if_pos (by rw [q]), List.drop_of_length_le (l := u) (by omega)]; rfl
      · rw [if_neg (fun z => q ((nI_eq (by omega) (by omega)).mp z)), if_neg (nI_ge (by omega) (by omega)), drop_g (s := u) (by omega)]; rfl
    | succ e ih =>
      intro i fu h1 h2 h3
      obtain ⟨fu, rfl⟩ : ∃ f, fu = f + 1 := ⟨fu - 1, by omega⟩
      show k_X9_ordered_3s A M _ _ _ _ _ _ = _
      unfold k_X9_ordered_3s k_X9_ordered_72
      rw [if_neg (nI_ge (by omega) (by omega))]
      by_cases q : u.length ≤ i
      · rw [if_pos (nI_le q (by omega)), if_neg (fun z => by have := (nI_eq (by omega) (by omega)).mp z; omega), if_pos (nI_le (by omega) (by omega)), List.drop_of_length_le (l := u) q, drop_g (s := s) (by omega)]; rfl
      · rw [if_neg (nI_ge (by omega) (by omega)), nI_add, nI_add, h.gd (by omega), if_pos (h.wx (by omega)), h.vl (by omega), h.vl (by omega), show mu A M (a + i) = _ from hs i (by omega), show mu A M (b + i) = _ from hu i (by omega), nI_1, drop_g (s := s) (i := i) (by omega), drop_g (s := u) (i := i) (by omega), ih (i + 1) fu (by omega) (by omega) (by omega)]
        show _ = some (if g s i = g u i then _ else _)
        by_cases hq : g s i = g u i
        · rw [if_pos (by rw [hq]), if_pos hq]
        · rw [if_neg (fun z => hq (i64_inj.mp z)), if_neg hq]
          by_cases hl : g s i < g u i
          · rw [if_neg (fun z => Int32.not_le.mpr hl (i64_le.mp z)), if_pos hl]
          · rw [if_pos (i64_le.mpr (Int32.not_lt.mp hl)), if_neg hl]
  unfold f_X9_ordered
  exact L s.length 0 FU (by omega) (by unfold FU; omega) (Nat.zero_le _)
theorem Ms.labelSign (c : Int32) : f_X9_isLabelSign A c.toInt64 = some (bI (isLab c)) := by
  unfold f_X9_isLabelSign k_X9_isLabelSign_34 isLab
  rw [show f_X9_in A c.toInt64 (97 : Int64) (122 : Int64) = some (bI (decide (97 ≤ c) && decide (c ≤ 122))) from inc_ c 97 122 (by decide) (by decide), Option.bind_some, show f_X9_in A c.toInt64 (48 : Int64) (57 : Int64) = some (bI (decide (48 ≤ c) && decide (c ≤ 57))) from inc_ c 48 57 (by decide) (by decide), Option.bind_some]
  cases decide (97 ≤ c) && decide (c ≤ 122)
  · rw [if_pos (by rfl), Bool.false_or]
    cases decide (48 ≤ c) && decide (c ≤ 57)
    · rw [if_pos (by rfl), Bool.false_or]
      by_cases hc : c = 45
      · rw [if_pos (show c.toInt64 = (45 : Int64) from (cq 45 (by decide)).mpr hc), decide_eq_true hc]; rfl
      · rw [if_neg (show ¬ c.toInt64 = (45 : Int64) from fun z => hc ((cq 45 (by decide)).mp z)), decide_eq_false hc]; rfl
    · rw [if_neg (by decide), Bool.true_or]; rfl
  · rw [if_neg (by decide), Bool.true_or, Bool.true_or]; rfl
theorem Ms.labelFrom (h : Ms A M) (hs : Sg (mu A M) a s) (ha : a + s.length ≤ 9000) {e : Nat} (he : e ≤ s.length) : f_X9_labelFrom A M (nI a) (nI e) = some (nI (labS s e)) := by
  have L : ∀ e fu, e ≤ s.length → e < fu → k_X9_labelFrom_2 A M (nI a) fu (nI e) = some (nI (labS s e)) := by
    intro e
    induction e with
    | zero =>
      intro fu h1 h2
      obtain ⟨fu, rfl⟩ : ∃ f, fu = f + 1 := ⟨fu - 1, by omega⟩
      show k_X9_labelFrom_2s A M _ _ _ = _
      unfold k_X9_labelFrom_2s
      rw [if_pos (show nI 0 ≤ 0 from Int32.le_rfl)]
      rfl
    | succ e ih =>
      intro fu h1 h2
      obtain ⟨fu, rfl⟩ : ∃ f, fu = f + 1 := ⟨fu - 1, by omega⟩
      show k_X9_labelFrom_2s A M _ _ _ = _
      unfold k_X9_labelFrom_2s
      rw [if_neg (nI_nle (by omega) (by omega)), nI_add, show nI (a + (e + 1)) - (1 : Int32) = nI (a + e) from nI_pred (a + e), h.gd (by omega), h.vl (by omega), show mu A M (a + e) = _ from hs e (by omega), pk_m1, ih fu (by omega) (by omega)]
      show _ = some (nI (if g s e = 46 then e + 1 else labS s e))
      by_cases hq : g s e = 46
      · rw [if_pos (show (g s e).toInt64 = (46 : Int64) from (cq 46 (by decide)).mpr hq), if_pos hq]
      · rw [if_neg (show ¬ (g s e).toInt64 = (46 : Int64) from fun z => hq ((cq 46 (by decide)).mp z)), if_neg hq]
  unfold f_X9_labelFrom
  exact L e FU he (by unfold FU; omega)
theorem dm_eq {d e : List Int32} : dm d e = (decide (d = e) || (decide (e.length < d.length) && (decide (g d (d.length - e.length - 1) = 46) && decide (d.drop (d.length - e.length) = e)))) := by
  unfold dm
  by_cases h1 : e.length < d.length
  · rw [decide_eq_true (Nat.le_of_lt h1), decide_eq_false (show ¬ e.length = d.length by omega), decide_eq_false (show ¬ d = e from fun z => by rw [z] at h1; omega), decide_eq_true h1, Bool.true_and, Bool.false_or, Bool.true_and, Bool.false_or]
  · rw [decide_eq_false h1, Bool.false_and, Bool.or_false]
    by_cases h2 : e.length = d.length
    · rw [decide_eq_true h2, decide_eq_true (Nat.le_of_eq h2), Bool.true_or, Bool.true_and, Bool.true_and, h2, Nat.sub_self, List.drop_zero]
    · rw [decide_eq_false (show ¬ e.length ≤ d.length by omega), Bool.false_and, Bool.false_and, decide_eq_false (fun z => h2 (by rw [z]))]
theorem Ms.matches (h : Ms A M) (hs : Sg (mu A M) a s) (hu : Sg (mu A M) b u) (ha : a + s.length ≤ 9000) (hb : b + u.length ≤ 9000) : f_X9_matches A M (nI a) (nI s.length) (nI b) (nI u.length) = some (bI (dm s u)) := by
  unfold f_X9_matches k_X9_matches_56
  rw [if_pos h.1, h.areLike hs hu ha hb, Option.bind_some, dm_eq]
  by_cases h0 : s = u
  · rw [decide_eq_true h0, if_neg (by decide), Bool.true_or]; rfl
  · rw [decide_eq_false h0, if_pos (by rfl), Bool.false_or]
    by_cases h1 : u.length < s.length
    · rw [if_neg (nI_ge h1 (by omega)), nI_add, pk_sub (by omega), show nI (a + s.length - u.length) - (1 : Int32) = nI (a + s.length - u.length - 1) from pk_sub (b := 1) (by omega), if_pos h.a11, if_pos (h.wx (by omega)), h.vl (by omega), show a + s.length - u.length - 1 = a + (s.length - u.length - 1) by omega, show mu A M (a + (s.length - u.length - 1)) = _ from hs _ (by omega), decide_eq_true h1, Bool.true_and]
      have hd := hs.drop (s.length - u.length)
      have hl : (s.drop (s.length - u.length)).length = u.length := by rw [List.length_drop]; omega
      have := h.areLike hd hu (by omega) hb
      rw [hl] at this
      rw [show a + s.length - u.length = a + (s.length - u.length) by omega, this, Option.bind_some]
      by_cases hq : g s (s.length - u.length - 1) = 46
      · rw [if_pos (show (g s (s.length - u.length - 1)).toInt64 = (46 : Int64) from (cq 46 (by decide)).mpr hq), decide_eq_true hq, Bool.true_and]
        cases decide (List.drop (s.length - u.length) s = u) <;> rfl
      · rw [if_neg (show ¬ (g s (s.length - u.length - 1)).toInt64 = (46 : Int64) from fun z => hq ((cq 46 (by decide)).mp z)), decide_eq_false hq, Bool.false_and]; rfl
    · rw [if_pos (nI_le (by omega) (by omega)), decide_eq_false h1, Bool.false_and]; rfl
end
