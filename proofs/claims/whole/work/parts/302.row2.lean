/-! rows: what is read of them -/
def fndD (s : List Int32) (c : Int32) : Nat → Nat → Nat
  | 0, i => i
  | d + 1, i => if g s i = c then i else fndD s c d (i + 1)
def fnd (s : List Int32) (c : Int32) (a b : Nat) : Nat := fndD s c (b - a) a
theorem fndD_le (s : List Int32) (c : Int32) : ∀ d i, i ≤ fndD s c d i ∧ fndD s c d i ≤ i + d := by
  intro d
  induction d with
  | zero => intro i; exact ⟨Nat.le_refl _, Nat.le_refl _⟩
  | succ d ih =>
    intro i
    show i ≤ (if g s i = c then i else fndD s c d (i + 1)) ∧ (if g s i = c then i else fndD s c d (i + 1)) ≤ _
    split
    · omega
    · have := ih (i + 1); omega
theorem fnd_le {s : List Int32} {c : Int32} {a b : Nat} (h : a ≤ b) : a ≤ fnd s c a b ∧ fnd s c a b ≤ b := by
  have := fndD_le s c (b - a) a
  unfold fnd; omega
theorem Rw.find {A : Hp} {r cap : Nat} {s : List Int32} (h : Rw A r cap s) (c : Int32) {a b : Nat} (hab : a ≤ b) (hb : b < 16000) : f_X6_find A r c (nI a) (nI b) = some (nI (fnd s c a b)) := by
  have L : ∀ d i fu, i + d = b → d < fu → k_X6_find_3 A r c (nI b) fu (nI i) = some (nI (fndD s c d i)) := by
    intro d
    induction d with
    | zero =>
      intro i fu h1 h2
      obtain ⟨fu, rfl⟩ : ∃ f, fu = f + 1 := ⟨fu - 1, by omega⟩
      show k_X6_find_3s A r c _ _ _ = _
      unfold k_X6_find_3s
      have : i = b := by omega
      subst this
      rw [if_pos Int32.le_rfl]
      rfl
    | succ d ih =>
      intro i fu h1 h2
      obtain ⟨fu, rfl⟩ : ∃ f, fu = f + 1 := ⟨fu - 1, by omega⟩
      show k_X6_find_3s A r c _ _ _ = _
      unfold k_X6_find_3s
      rw [if_neg (nI_ge (by omega) (by omega)), if_pos h.1.1, h.at (by omega), Option.bind_some, nI_1, ih (i + 1) fu (by omega) (by omega)]
      show _ = some (nI (if g s i = c then i else fndD s c d (i + 1)))
      split <;> rfl
  unfold f_X6_find fnd
  exact L (b - a) a FU (by omega) (by unfold FU; omega)
-- words
theorem wl_ {A : Hp} {n : Nat} (hn : wSn n ∧ wBn (40 + n)) : f_J0_length_8abf5 A n = some (nI (wsc n).length) := by
  unfold f_J0_length_8abf5 f_J0_coder_7d493
  rw [if_pos hn.1, if_pos hn.2, if_neg (by decide), if_pos hn.1, Option.bind_some, show 40 + n - 40 = n by omega]
  congr 1
  apply Int32.toBitVec_inj.mp
  simp
def wok (n : Nat) : Prop := (wSn n ∧ wBn (40 + n)) ∧ (wsc n).length < 100 ∧ ∀ i, i < (wsc n).length → vp_nar .char ((((g (wsc n) i) &&& (255 : Int32)).toUInt32 % 65536).toInt32) = g (wsc n) i ∧ ((((g (wsc n) i) &&& (255 : Int32)).toUInt32 % 65536).toInt32) = g (wsc n) i
theorem wc_ {A : Hp} {n i : Nat} (hn : wok n) (hi : i < (wsc n).length) : f_J0_charAt_5068e A n (nI i) = some (g (wsc n) i) := by
  obtain ⟨⟨h1, h2⟩, h3, h4⟩ := hn
  unfold f_J0_charAt_5068e f_J0_isLatin1_aae02 f_J1_charAt_3b067 f_J0_checkIndex_df160 f_J3_checkIndex_8e157
  rw [if_pos h1, if_neg (by decide), if_pos h1, if_pos rfl, Option.bind_some, if_neg (by decide), if_pos h2, show 40 + n - 40 = n by omega, if_neg (nI_pos (by omega)), if_pos (nI_lt hi (by omega)), Option.bind_some, Option.bind_some, if_pos ((nI_wix (by omega)).mpr hi), Option.bind_some, nI_clamp (by omega)]
  have hg : (wsc n).getD i 0 = g (wsc n) i := by simp [g, hi]
  rw [hg, (h4 i hi).2]
  have := (h4 i hi).1
  rw [(h4 i hi).2] at this
  rw [if_pos this]
theorem wok_all : ∀ n, 1 ≤ n → n ≤ 36 → wok n := by
  intro n h1 h2
  have h : ∀ n, n < 37 → 1 ≤ n → (wsc n).length < 100 ∧ ∀ i, i < (wsc n).length → vp_nar .char ((((g (wsc n) i) &&& (255 : Int32)).toUInt32 % 65536).toInt32) = g (wsc n) i ∧ ((((g (wsc n) i) &&& (255 : Int32)).toUInt32 % 65536).toInt32) = g (wsc n) i := by decide +kernel
  refine ⟨⟨?_, ?_⟩, h n (by omega) h1⟩
  · unfold wSn; omega
  · unfold wBn; omega
def agrD (s w : List Int32) : Nat → Nat → Nat
  | 0, i => i
  | d + 1, i => if g s i = g w i then agrD s w d (i + 1) else i
def agr (s w : List Int32) : Nat := agrD s w w.length 0
theorem Rw.agreement {A : Hp} {r cap n : Nat} {s : List Int32} (h : Rw A r cap s) (hn : wok n) : f_X6_agreement A r n = some (nI (agr s (wsc n))) := by
  have L : ∀ d i fu, i + d = (wsc n).length → d < fu → k_X6_agreement_2 A r n fu (nI i) = some (nI (agrD s (wsc n) d i)) := by
    intro d
    induction d with
    | zero =>
      intro i fu h1 h2
      obtain ⟨fu, rfl⟩ : ∃ f, fu = f + 1 := ⟨fu - 1, by omega⟩
      show k_X6_agreement_2s A r n _ _ = _
      unfold k_X6_agreement_2s
      have : i = (wsc n).length := by omega
      subst this
      rw [if_pos hn.1.1, wl_ hn.1, Option.bind_some, if_pos Int32.le_rfl]
      rfl
    | succ d ih =>
      intro i fu h1 h2
      have hw := hn.2.1
      obtain ⟨fu, rfl⟩ : ∃ f, fu = f + 1 := ⟨fu - 1, by omega⟩
      show k_X6_agreement_2s A r n _ _ = _
      unfold k_X6_agreement_2s
      rw [if_pos hn.1.1, wl_ hn.1, Option.bind_some, if_neg (nI_ge (by omega) (by omega)), if_pos h.1.1, h.at (by omega), Option.bind_some, wc_ hn (by omega), Option.bind_some, nI_1, ih (i + 1) fu (by omega) (by omega)]
      show _ = some (nI (if g s i = g (wsc n) i then agrD s (wsc n) d (i + 1) else i))
      split <;> rfl
  have hw := hn.2.1
  unfold f_X6_agreement agr
  exact L _ 0 FU (by omega) (by unfold FU; omega)
theorem agrD_le (s w : List Int32) : ∀ d i, i ≤ agrD s w d i ∧ agrD s w d i ≤ i + d := by
  intro d
  induction d with
  | zero => intro i; exact ⟨Nat.le_refl _, Nat.le_refl _⟩
  | succ d ih =>
    intro i
    show i ≤ (if g s i = g w i then agrD s w d (i + 1) else i) ∧ (if g s i = g w i then agrD s w d (i + 1) else i) ≤ _
    split
    · have := ih (i + 1); omega
    · omega
theorem agr_le (s w : List Int32) : agr s w ≤ w.length := by have := agrD_le s w w.length 0; unfold agr; omega
theorem agrD_eq {s w : List Int32} : ∀ d i, agrD s w d i = i + d ↔ ∀ k, i ≤ k → k < i + d → g s k = g w k := by
  intro d
  induction d with
  | zero => intro i; exact ⟨fun _ k h1 h2 => by omega, fun _ => rfl⟩
  | succ d ih =>
    intro i
    show (if g s i = g w i then agrD s w d (i + 1) else i) = _ ↔ _
    by_cases hg : g s i = g w i
    · rw [if_pos hg, show i + (d + 1) = i + 1 + d by omega, ih]
      constructor
      · intro h k h1 h2
        by_cases hk : k = i
        · rw [hk]; exact hg
        · exact h k (by omega) h2
      · intro h k h1 h2
        exact h k (by omega) h2
    · rw [if_neg hg]
      constructor
      · intro h; omega
      · intro h; exact absurd (h i (by omega) (by omega)) hg
def bgn (s w : List Int32) : Bool := decide (s.take w.length = w)
theorem take_iff {s w : List Int32} (hw : ∀ c ∈ w, c ≠ -1) : s.take w.length = w ↔ ∀ k, k < w.length → g s k = g w k := by
  constructor
  · intro h k hk
    have : k < s.length := by
      have := congrArg List.length h
      rw [List.length_take] at this; omega
    rw [← h]
    simp only [g, List.getD_eq_getElem?_getD]
    rw [List.getElem?_take_of_lt hk]
  · intro h
    have hl : w.length ≤ s.length := by
      rcases Nat.lt_or_ge s.length w.length with q | q
      · have := h s.length q
        rw [g_ge (Nat.le_refl _), g_lt q] at this
        exact absurd this.symm (hw _ (List.getElem_mem q))
      · exact q
    apply List.ext_getElem
    · rw [List.length_take]; omega
    · intro i h1 h2
      have := h i h2
      rw [g_lt h2, g_lt (by omega)] at this
      rw [List.getElem_take, this]
theorem wsc_ne : ∀ n, n < 37 → ∀ c ∈ wsc n, c ≠ -1 := by decide +kernel
theorem agr_iff {s : List Int32} {n : Nat} (hn : n < 37) : agr s (wsc n) = (wsc n).length ↔ s.take (wsc n).length = wsc n := by
  rw [take_iff (wsc_ne n hn)]
  have := agrD_eq (s := s) (w := wsc n) (wsc n).length 0
  unfold agr
  rw [Nat.zero_add] at this
  rw [this]
  exact ⟨fun h k hk => h k (by omega) hk, fun h k _ hk => h k hk⟩
def bI (b : Bool) : Int32 := if b then 1 else 0
theorem bI_t : bI true = 1 := rfl
theorem bI_f : bI false = 0 := rfl
theorem bI_0 {b : Bool} : bI b = 0 ↔ b = false := by cases b <;> decide
theorem bI_1 {b : Bool} : bI b = 1 ↔ b = true := by cases b <;> decide
theorem bI_Z (b : Bool) : wZ (bI b) := by cases b <;> (unfold wZ; decide)
theorem ifI {c : Prop} [Decidable c] : (if c then some (1 : Int32) else some 0) = some (bI (decide c)) := by
  by_cases h : c
  · rw [if_pos h, decide_eq_true h]; rfl
  · rw [if_neg h, decide_eq_false h]; rfl
theorem Rw.begins {A : Hp} {r cap n : Nat} {s : List Int32} (h : Rw A r cap s) (h1 : 1 ≤ n) (h2 : n ≤ 36) : f_X6_begins A r n = some (bI (bgn s (wsc n))) := by
  have hn := wok_all n h1 h2
  have hl := agr_le s (wsc n)
  have hw := hn.2.1
  unfold f_X6_begins
  rw [if_pos h.1.1, h.agreement hn, Option.bind_some, if_pos hn.1.1, wl_ hn.1, Option.bind_some, ifI]
  congr 2
  unfold bgn
  rw [decide_eq_decide, nI_eq (by omega) (by omega), agr_iff (by omega)]
theorem Rw.is {A : Hp} {r cap n : Nat} {s : List Int32} (h : Rw A r cap s) (h1 : 1 ≤ n) (h2 : n ≤ 36) : f_X6_is A r n = some (bI (decide (s = wsc n))) := by
  have hn := wok_all n h1 h2
  have hw := hn.2.1
  have hc := h.2.2.1
  have hc4 := h.1.2.2.2
  unfold f_X6_is
  rw [if_pos h.1.1, if_pos hn.1.1, wl_ hn.1, Option.bind_some, h.2.1]
  by_cases hl : s.length = (wsc n).length
  · have ha := agr_iff (s := s) (n := n) (by omega)
    have hle := agr_le s (wsc n)
    rw [← hl, List.take_length] at ha
    rw [if_pos (by rw [hl]), h.agreement hn, Option.bind_some, ifI]
    congr 2
    rw [decide_eq_decide, nI_eq (by omega) (by omega), ha]
  · rw [if_neg (fun q => hl ((nI_eq (by omega) (by omega)).mp q)), decide_eq_false (fun q => hl (by rw [q]))]
    rfl
theorem bIc {p q : Prop} [Decidable p] [Decidable q] (h : p ↔ q) : some (bI (decide p)) = some (bI (decide q)) := by
  rw [decide_eq_decide.mpr h]
