/-! domains -/
def isLab (c : Int32) : Bool := (decide (97 ≤ c) && decide (c ≤ 122)) || (decide (48 ≤ c) && decide (c ≤ 57)) || decide (c = 45)
theorem isLab_m1 : isLab (-1) = false := by decide
theorem isLab_46 : isLab 46 = false := by decide
theorem lab_ {A : Hp} (c : Int32) : f_X3_isOfLabel A c = some (bI (isLab c)) := by
  unfold f_X3_isOfLabel k_X3_isOfLabel_12 k_X3_isOfLabel_24 k_X3_isOfLabel_30 isLab
  by_cases h1 : c < 97
  · rw [if_pos h1, decide_eq_false (p := (97 : Int32) ≤ c) (Int32.not_le.mpr h1), Bool.false_and, Bool.false_or]
    by_cases h2 : c < 48
    · rw [if_pos h2, decide_eq_false (p := (48 : Int32) ≤ c) (Int32.not_le.mpr h2), Bool.false_and, Bool.false_or, ifI]
    · rw [if_neg h2, decide_eq_true (p := (48 : Int32) ≤ c) (Int32.not_lt.mp h2), Bool.true_and]
      by_cases h3 : c ≤ 57
      · rw [if_pos h3, decide_eq_true h3, Bool.true_or]; rfl
      · rw [if_neg h3, decide_eq_false h3, Bool.false_or, ifI]
  · rw [if_neg h1, decide_eq_true (p := (97 : Int32) ≤ c) (Int32.not_lt.mp h1), Bool.true_and]
    by_cases h4 : c ≤ 122
    · rw [if_pos h4, decide_eq_true h4, Bool.true_or, Bool.true_or]; rfl
    · rw [if_neg h4, decide_eq_false h4, Bool.false_or]
      by_cases h2 : c < 48
      · rw [if_pos h2, decide_eq_false (p := (48 : Int32) ≤ c) (Int32.not_le.mpr h2), Bool.false_and, Bool.false_or, ifI]
      · rw [if_neg h2, decide_eq_true (p := (48 : Int32) ≤ c) (Int32.not_lt.mp h2), Bool.true_and]
        by_cases h3 : c ≤ 57
        · rw [if_pos h3, decide_eq_true h3, Bool.true_or]; rfl
        · rw [if_neg h3, decide_eq_false h3, Bool.false_or, ifI]
/-- a domain goes on with the sign at k -/
def goS (s : List Int32) (f k : Nat) : Bool := if g s k = 46 then decide (f < k) && decide (g s (k - 1) ≠ 46) && decide (k - f < 29) else isLab (g s k) && decide (k - f < 30)
theorem goS_end {s : List Int32} {f k : Nat} (h : s.length ≤ k) : goS s f k = false := by
  unfold goS
  rw [g_ge h, if_neg (by decide), isLab_m1, Bool.false_and]
theorem Rw.goesOn {A : Hp} {r cap : Nat} {s : List Int32} (h : Rw A r cap s) {f k : Nat} (hf : f ≤ k) (hk : k < 16000) : f_X3_goesOn A r (nI f) (nI k) = some (bI (goS s f k)) := by
  unfold f_X3_goesOn goS
  rw [if_pos h.1.1, h.at (by omega), Option.bind_some]
  by_cases h1 : g s k = 46
  · rw [if_pos h1, if_pos h1]
    by_cases h2 : f < k
    · rw [if_neg (nI_ge h2 (by omega)), show nI k - (1 : Int32) = nI (k - 1) from pk_sub (b := 1) (by omega), h.at (by omega), Option.bind_some, decide_eq_true h2, Bool.true_and, pk_sub hf]
      by_cases h3 : g s (k - 1) = 46
      · rw [if_pos h3, decide_eq_false (fun z => z h3), Bool.false_and]; rfl
      · rw [if_neg h3, decide_eq_true h3, Bool.true_and]
        by_cases h4 : k - f < 29
        · rw [if_neg (show ¬ (29 : Int32) ≤ nI (k - f) from nI_ge (b := 29) h4 (by omega)), decide_eq_true h4]; rfl
        · rw [if_pos (show (29 : Int32) ≤ nI (k - f) from nI_le (a := 29) (by omega) (by omega)), decide_eq_false h4]; rfl
    · rw [if_pos (nI_le (by omega) (by omega)), decide_eq_false h2, Bool.false_and, Bool.false_and]; rfl
  · rw [if_neg h1, if_neg h1, Option.bind_some, lab_, Option.bind_some, pk_sub hf]
    cases hb : isLab (g s k)
    · rw [if_pos (by rfl), Bool.false_and]; rfl
    · rw [if_neg (by decide), Bool.true_and]
      by_cases h4 : k - f < 30
      · rw [if_neg (show ¬ (30 : Int32) ≤ nI (k - f) from nI_ge (b := 30) h4 (by omega)), decide_eq_true h4]; rfl
      · rw [if_pos (show (30 : Int32) ≤ nI (k - f) from nI_le (a := 30) (by omega) (by omega)), decide_eq_false h4]; rfl
def endD (s : List Int32) (f : Nat) : Nat → Nat → Nat
  | 0, i => i
  | d + 1, i => if goS s f i then endD s f d (i + 1) else i
def endS (s : List Int32) (f : Nat) : Nat := endD s f (s.length - f) f
theorem endD_le (s : List Int32) (f : Nat) : ∀ d i, i ≤ endD s f d i ∧ endD s f d i ≤ i + d := by
  intro d
  induction d with
  | zero => intro i; exact ⟨Nat.le_refl _, Nat.le_refl _⟩
  | succ d ih =>
    intro i
    show i ≤ (if goS s f i = true then endD s f d (i + 1) else i) ∧ (if goS s f i = true then endD s f d (i + 1) else i) ≤ _
    split
    · have := ih (i + 1); omega
    · omega
theorem endS_le {s : List Int32} {f : Nat} (h : f ≤ s.length) : f ≤ endS s f ∧ endS s f ≤ s.length := by
  have := endD_le s f (s.length - f) f
  unfold endS; omega
theorem Rw.end_ {A : Hp} {r cap : Nat} {s : List Int32} (h : Rw A r cap s) {f : Nat} (hf : f ≤ s.length) (hs : s.length < 16000) : f_X3_end A r (nI f) = some (nI (endS s f)) := by
  have L : ∀ d i fu, i + d = s.length → f ≤ i → d < fu → k_X3_end_2 A r (nI f) fu (nI i) = some (nI (endD s f d i)) := by
    intro d
    induction d with
    | zero =>
      intro i fu h1 h2 h3
      obtain ⟨fu, rfl⟩ : ∃ f, fu = f + 1 := ⟨fu - 1, by omega⟩
      show k_X3_end_2s A r _ _ _ = _
      unfold k_X3_end_2s
      rw [if_pos h.1.1, h.2.1, if_pos (nI_le (by omega) (by omega))]
      rfl
    | succ d ih =>
      intro i fu h1 h2 h3
      obtain ⟨fu, rfl⟩ : ∃ f, fu = f + 1 := ⟨fu - 1, by omega⟩
      show k_X3_end_2s A r _ _ _ = _
      unfold k_X3_end_2s
      rw [if_pos h.1.1, h.2.1, if_neg (nI_ge (by omega) (by omega)), h.goesOn h2 (by omega), Option.bind_some, nI_1, ih (i + 1) fu (by omega) (by omega) (by omega)]
      show _ = some (nI (if goS s f i = true then endD s f d (i + 1) else i))
      cases goS s f i <;> rfl
  unfold f_X3_end endS
  exact L (s.length - f) f FU (by omega) (Nat.le_refl _) (by unfold FU; omega)
def whl (s : List Int32) (f e : Nat) : Bool := decide (f < e) && decide (g s (e - 1) ≠ 46)
theorem Rw.isWhole {A : Hp} {r cap : Nat} {s : List Int32} (h : Rw A r cap s) {f e : Nat} (hf : f < 16000) (he : e < 16000) : f_X3_isWhole A r (nI f) (nI e) = some (bI (whl s f e)) := by
  unfold f_X3_isWhole whl
  by_cases h1 : f < e
  · rw [if_neg (nI_ge h1 (by omega)), if_pos h.1.1, show nI e - (1 : Int32) = nI (e - 1) from pk_sub (b := 1) (by omega), h.at (by omega), Option.bind_some, decide_eq_true h1, Bool.true_and]
    by_cases h3 : g s (e - 1) = 46
    · rw [if_pos h3, decide_eq_false (fun z => z h3)]; rfl
    · rw [if_neg h3, decide_eq_true h3]; rfl
  · rw [if_pos (nI_le (by omega) (by omega)), decide_eq_false h1, Bool.false_and]; rfl
/-- a domain -/
def isDom (s : List Int32) : Bool := decide (1 ≤ s.length) && decide (s.length ≤ 30) && decide (∀ k, k < s.length → isLab (g s k) = true ∨ (g s k = 46 ∧ 0 < k ∧ k + 1 < s.length ∧ g s (k - 1) ≠ 46))
theorem isDom_iff {s : List Int32} : isDom s = true ↔ 1 ≤ s.length ∧ s.length ≤ 30 ∧ ∀ k, k < s.length → isLab (g s k) = true ∨ (g s k = 46 ∧ 0 < k ∧ k + 1 < s.length ∧ g s (k - 1) ≠ 46) := by
  unfold isDom
  rw [Bool.and_eq_true, Bool.and_eq_true, decide_eq_true_iff, decide_eq_true_iff, decide_eq_true_iff, and_assoc]
theorem endD_full {s : List Int32} {f : Nat} : ∀ d i, endD s f d i = i + d ↔ ∀ k, i ≤ k → k < i + d → goS s f k = true := by
  intro d
  induction d with
  | zero => intro i; exact ⟨fun _ k h1 h2 => by omega, fun _ => rfl⟩
  | succ d ih =>
    intro i
    show (if goS s f i = true then endD s f d (i + 1) else i) = _ ↔ _
    by_cases hg : goS s f i = true
    · rw [if_pos hg, show i + (d + 1) = i + 1 + d by omega, ih]
      constructor
      · intro h k h1 h2
        by_cases hk : k = i
        · rw [hk]; exact hg
        · exact h k (by omega) h2
      · intro h k h1 h2
        exact h k (by omega) h2
    · rw [if_neg hg]
      constructor
      · intro h; omega
      · intro h; exact absurd (h i (by omega) (by omega)) hg
theorem goS_iff {s : List Int32} {f k : Nat} : goS s f k = true ↔ (g s k = 46 ∧ f < k ∧ g s (k - 1) ≠ 46 ∧ k - f < 29) ∨ (g s k ≠ 46 ∧ isLab (g s k) = true ∧ k - f < 30) := by
  unfold goS
  by_cases h : g s k = 46
  · rw [if_pos h, Bool.and_eq_true, Bool.and_eq_true, decide_eq_true_iff, decide_eq_true_iff, decide_eq_true_iff]
    constructor
    · intro q; exact Or.inl ⟨h, q.1.1, q.1.2, q.2⟩
    · rintro (q | q)
      · exact ⟨⟨q.2.1, q.2.2.1⟩, q.2.2.2⟩
      · exact absurd h q.1
  · rw [if_neg h, Bool.and_eq_true, decide_eq_true_iff]
    constructor
    · intro q; exact Or.inr ⟨h, q.1, q.2⟩
    · rintro (q | q)
      · exact absurd q.1 h
      · exact ⟨q.2.1, q.2.2⟩
theorem isDom_end {s : List Int32} : isDom s = true ↔ endS s 0 = s.length ∧ whl s 0 s.length = true := by
  have e1 := endD_full (s := s) (f := 0) s.length 0
  rw [Nat.zero_add] at e1
  unfold endS whl
  rw [Nat.sub_zero, e1, isDom_iff, Bool.and_eq_true, decide_eq_true_iff, decide_eq_true_iff]
  constructor
  · rintro ⟨h1, h2, h3⟩
    refine ⟨fun k _ hk => goS_iff.mpr ?_, h1, fun q => ?_⟩
    · rcases h3 k hk with q | q
      · exact Or.inr ⟨(fun z => by rw [z, isLab_46] at q; cases q), q, by omega⟩
      · exact Or.inl ⟨q.1, q.2.1, q.2.2.2, by omega⟩
    · rcases h3 (s.length - 1) (by omega) with z | z
      · rw [q, isLab_46] at z; cases z
      · omega
  · rintro ⟨h1, h2, h3⟩
    have hl : s.length ≤ 30 := by
      rcases goS_iff.mp (h1 (s.length - 1) (by omega) (by omega)) with q | q <;> omega
    refine ⟨h2, hl, fun k hk => ?_⟩
    rcases goS_iff.mp (h1 k (by omega) hk) with q | q
    · refine Or.inr ⟨q.1, q.2.1, ?_, q.2.2.1⟩
      rcases Nat.lt_or_ge (k + 1) s.length with z | z
      · exact z
      · have : k = s.length - 1 := by omega
        exact absurd (this ▸ q.1) h3
    · exact Or.inl q.2.1
theorem Rw.isDomain {A : Hp} {r cap : Nat} {s : List Int32} (h : Rw A r cap s) (hs : s.length < 16000) : f_X3_isDomain A r = some (bI (isDom s)) := by
  unfold f_X3_isDomain
  have he := (endS_le (s := s) (f := 0) (Nat.zero_le _)).2
  rw [show f_X3_end A r 0 = some (nI (endS s 0)) from h.end_ (Nat.zero_le _) hs, Option.bind_some, if_pos h.1.1, h.2.1, show f_X3_isWhole A r 0 (nI (endS s 0)) = some (bI (whl s 0 (endS s 0))) from h.isWhole (f := 0) (by omega) (by omega), Option.bind_some]
  by_cases h1 : endS s 0 = s.length
  · rw [if_pos (by rw [h1]), h1]
    cases hw : whl s 0 s.length
    · rw [if_pos (by rfl)]
      have : isDom s = false := by
        cases hd : isDom s
        · rfl
        · have := (isDom_end.mp hd).2
          rw [hw] at this; cases this
      rw [this]; rfl
    · rw [if_neg (by decide), isDom_end.mpr ⟨h1, hw⟩]; rfl
  · rw [if_neg (fun z => h1 ((nI_eq (by omega) (by omega)).mp z))]
    have : isDom s = false := by
      cases hd : isDom s
      · rfl
      · exact absurd (isDom_end.mp hd).1 h1
    rw [this]; rfl
/-- where the label begins that ends ahead of e -/
def labS (s : List Int32) : Nat → Nat
  | 0 => 0
  | e + 1 => if g s e = 46 then e + 1 else labS s e
theorem labS_le (s : List Int32) : ∀ e, labS s e ≤ e := by
  intro e
  induction e with
  | zero => exact Nat.le_refl _
  | succ e ih =>
    show (if g s e = 46 then e + 1 else labS s e) ≤ _
    split <;> omega
theorem labS_dot {s : List Int32} : ∀ {e}, 0 < labS s e → g s (labS s e - 1) = 46 := by
  intro e
  induction e with
  | zero => intro h; exact absurd h (Nat.lt_irrefl 0)
  | succ e ih =>
    show 0 < (if g s e = 46 then e + 1 else labS s e) → g s ((if g s e = 46 then e + 1 else labS s e) - 1) = 46
    split
    · rename_i hq; intro _; exact hq
    · exact ih
theorem labS_max {s : List Int32} : ∀ {e i}, 0 < i → i ≤ e → g s (i - 1) = 46 → i ≤ labS s e := by
  intro e
  induction e with
  | zero => intro i h1 h2; omega
  | succ e ih =>
    intro i h1 h2 h3
    show i ≤ (if g s e = 46 then e + 1 else labS s e)
    split
    · exact h2
    · rename_i hq
      have : i ≠ e + 1 := fun z => hq (by rw [z] at h3; exact h3)
      exact ih h1 (by omega) h3
theorem Rw.labelStart {A : Hp} {r cap : Nat} {s : List Int32} (h : Rw A r cap s) {e : Nat} (he : e < 16000) : f_X3_labelStart A r (nI e) = some (nI (labS s e)) := by
  have L : ∀ e fu, e < 16000 → e < fu → k_X3_labelStart_2 A r fu (nI e) = some (nI (labS s e)) := by
    intro e
    induction e with
    | zero =>
      intro fu h1 h2
      obtain ⟨fu, rfl⟩ : ∃ f, fu = f + 1 := ⟨fu - 1, by omega⟩
      show k_X3_labelStart_2s A r _ _ = _
      unfold k_X3_labelStart_2s
      rw [if_pos (show nI 0 ≤ 0 from Int32.le_rfl)]
      rfl
    | succ e ih =>
      intro fu h1 h2
      obtain ⟨fu, rfl⟩ : ∃ f, fu = f + 1 := ⟨fu - 1, by omega⟩
      show k_X3_labelStart_2s A r _ _ = _
      unfold k_X3_labelStart_2s
      rw [if_neg (nI_nle (by omega) (by omega)), if_pos h.1.1, show nI (e + 1) - (1 : Int32) = nI e from nI_pred e, h.at (by omega), Option.bind_some, pk_m1, ih fu (by omega) (by omega)]
      show _ = some (nI (if g s e = 46 then e + 1 else labS s e))
      split <;> rfl
  unfold f_X3_labelStart
  exact L e FU he (by unfold FU; omega)
-- the order of domains
def keyD (s : List Int32) : Nat → Nat → List (List Int32)
  | 0, _ => []
  | f + 1, e => sub s (labS s e) e :: (if labS s e = 0 then [] else keyD s f (labS s e - 1))
def key (s : List Int32) : List (List Int32) := keyD s (s.length + 1) s.length
def lcmp : List (List Int32) → List (List Int32) → Int32
  | [], [] => 0
  | [], _ :: _ => -1
  | _ :: _, [] => 1
  | a :: s, b :: t => if scmp a b = 0 then lcmp s t else scmp a b
def dcmp (a b : List Int32) : Int32 := lcmp (key a) (key b)
/-- no label ahead of e is empty -/
def nlb (s : List Int32) (e : Nat) : Prop := 0 < e ∧ e ≤ s.length ∧ g s (e - 1) ≠ 46 ∧ ∀ k, k < e → g s k = 46 → 0 < k ∧ g s (k - 1) ≠ 46
theorem nlb_lt {s : List Int32} {e : Nat} (h : nlb s e) : labS s e < e := by
  rcases Nat.lt_or_ge (labS s e) e with q | q
  · exact q
  · have h1 := labS_le s e
    have h2 := labS_dot (s := s) (e := e) (by have := h.1; omega)
    have : labS s e = e := by omega
    rw [this] at h2
    exact absurd h2 h.2.2.1
theorem nlb_next {s : List Int32} {e : Nat} (h : nlb s e) (h0 : labS s e ≠ 0) : nlb s (labS s e - 1) ∧ labS s e - 1 + 2 ≤ e := by
  have h1 := nlb_lt h
  have h2 := labS_dot (s := s) (e := e) (by omega)
  have h3 := h.2.2.2 (labS s e - 1) (by omega) h2
  have := h.2.1
  exact ⟨⟨h3.1, by omega, h3.2, fun k hk hq => h.2.2.2 k (by omega) hq⟩, by omega⟩
theorem isDom_nlb {s : List Int32} (h : isDom s = true) : nlb s s.length := by
  obtain ⟨h1, h2, h3⟩ := isDom_iff.mp h
  refine ⟨h1, Nat.le_refl _, fun q => ?_, fun k hk hq => ?_⟩
  · rcases h3 (s.length - 1) (by omega) with z | z
    · rw [q, isLab_46] at z; cases z
    · omega
  · rcases h3 k hk with z | z
    · rw [hq, isLab_46] at z; cases z
    · exact ⟨z.2.1, z.2.2.2⟩
theorem Rw.dcompare {A : Hp} {r t cap cap' : Nat} {s u : List Int32} (h : Rw A r cap s) (k : Rw A t cap' u) (hs : isDom s = true) (hu : isDom u = true) : f_X3_compare A r t = some (dcmp s u) := by
  have L : ∀ d e e' l f f' fu, e + e' ≤ d → nlb s e → nlb u e' → 2 * l + e ≤ 30 → e < f → e' < f' → 31 ≤ l + fu → e ≤ 30 → e' ≤ 30 → k_X3_compare_13 A r t fu (nI e) (nI e') (nI l) = some (lcmp (keyD s f e) (keyD u f' e')) := by
    intro d
    induction d with
    | zero => intro e e' l f f' fu h1 h2; have := h2.1; omega
    | succ d ih =>
      intro e e' l f f' fu h1 h2 h3 h4 h5 h6 h7 h8 h9
      have n1 := nlb_lt h2
      have n2 := nlb_lt h3
      obtain ⟨fu, rfl⟩ : ∃ f, fu = f + 1 := ⟨fu - 1, by omega⟩
      obtain ⟨f, rfl⟩ : ∃ z, f = z + 1 := ⟨f - 1, by omega⟩
      obtain ⟨f', rfl⟩ : ∃ z, f' = z + 1 := ⟨f' - 1, by omega⟩
      show k_X3_compare_13s A r t _ _ _ _ = _
      unfold k_X3_compare_13s
      have q1 := h2.1
      have q2 := h3.1
      rw [if_neg (show ¬ (30 : Int32) ≤ nI l from nI_ge (b := 30) (by omega) (by omega)), if_neg (nI_nle (by omega) (by omega)), if_neg (nI_nle (by omega) (by omega)), h.labelStart (by omega), Option.bind_some, k.labelStart (by omega), Option.bind_some, if_pos h.1.1, h.compareParts k (by omega) h2.2.1 (by omega) h3.2.1 (by omega) (by omega), Option.bind_some]
      show _ = some (if scmp (sub s (labS s e) e) (sub u (labS u e') e') = 0 then lcmp (if labS s e = 0 then [] else keyD s f (labS s e - 1)) (if labS u e' = 0 then [] else keyD u f' (labS u e' - 1)) else scmp (sub s (labS s e) e) (sub u (labS u e') e'))
      by_cases hq : scmp (sub s (labS s e) e) (sub u (labS u e') e') = 0
      · rw [if_pos hq, if_pos hq, nI_1]
        by_cases z1 : labS s e = 0
        · rw [if_pos z1, z1]
          obtain ⟨fu, rfl⟩ : ∃ f, fu = f + 1 := ⟨fu - 1, by omega⟩
          show k_X3_compare_13s A r t _ _ _ _ = _
          unfold k_X3_compare_13s
          rw [if_neg (show ¬ (30 : Int32) ≤ nI (l + 1) from nI_ge (b := 30) (by omega) (by omega)), if_pos (by decide)]
          unfold k_X3_compare_79
          rw [icmp_, Option.bind_some]
          by_cases z2 : labS u e' = 0
          · rw [if_pos z2, z2, if_pos rfl]
            rfl
          · rw [if_neg z2, show nI (labS u e') - (1 : Int32) = nI (labS u e' - 1) from pk_sub (b := 1) (by omega)]
            have := nlb_next h3 z2
            obtain ⟨f', rfl⟩ : ∃ z, f' = z + 1 := ⟨f' - 1, by omega⟩
            rw [if_neg (show ¬ nI 0 - (1 : Int32) = _ from fun z => m1_ne (by omega) (Eq.trans (by decide) z)), if_pos (show nI 0 - (1 : Int32) < _ from (m1_lt (by omega) : (-1 : Int32) < _))]
            rfl
        · have := nlb_next h2 z1
          rw [if_neg z1, show nI (labS s e) - (1 : Int32) = nI (labS s e - 1) from pk_sub (b := 1) (by omega)]
          by_cases z2 : labS u e' = 0
          · rw [if_pos z2, z2]
            obtain ⟨fu, rfl⟩ : ∃ f, fu = f + 1 := ⟨fu - 1, by omega⟩
            obtain ⟨f, rfl⟩ : ∃ z, f = z + 1 := ⟨f - 1, by omega⟩
            show k_X3_compare_13s A r t _ _ _ _ = _
            unfold k_X3_compare_13s
            rw [if_neg (show ¬ (30 : Int32) ≤ nI (l + 1) from nI_ge (b := 30) (by omega) (by omega)), if_neg (nI_nle this.1.1 (by omega)), if_pos (by decide)]
            unfold k_X3_compare_79
            rw [icmp_, Option.bind_some, if_neg (show ¬ nI (labS s e - 1) = nI 0 - (1 : Int32) from fun z => m1_ne (n := labS s e - 1) (by omega) (Eq.trans (by decide) z.symm)), if_neg (Int32.not_lt.mpr (Int32.le_of_lt (show nI 0 - (1 : Int32) < nI (labS s e - 1) from (m1_lt (by omega) : (-1 : Int32) < _))))]
            rfl
          · have t2 := nlb_next h3 z2
            rw [if_neg z2, show nI (labS u e') - (1 : Int32) = nI (labS u e' - 1) from pk_sub (b := 1) (by omega)]
            exact ih _ _ _ _ _ _ (by omega) this.1 t2.1 (by omega) (by omega) (by omega) (by omega) (by omega) (by omega)
      · rw [if_neg hq, if_neg hq]
  have d1 := isDom_iff.mp hs
  have d2 := isDom_iff.mp hu
  unfold f_X3_compare dcmp key
  rw [if_pos h.1.1, if_pos k.1.1, h.2.1, k.2.1]
  exact L _ _ _ 0 _ _ FU (Nat.le_refl _) (isDom_nlb hs) (isDom_nlb hu) (by omega) (by omega) (by omega) (by unfold FU; omega) (by omega) (by omega)
