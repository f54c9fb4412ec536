/-! numbers of the pure part -/
theorem iL (n : Nat) : (OfNat.ofNat n : Int32) = nI (OfNat.ofNat n) := rfl
theorem lL (n : Nat) : (OfNat.ofNat n : Int64) = lN (OfNat.ofNat n) := rfl
theorem nI_neg {n : Nat} (h : n < 2 ^ 31) : nI n < 0 ↔ False := ⟨fun q => absurd q (nI_pos h), fun q => q.elim⟩
theorem nI_wix {i n : Nat} (h : i < 2 ^ 31) : wix (nI i) n ↔ i < n := by
  unfold wix
  rw [nI_clamp h]
  exact ⟨fun q => q.2, fun q => ⟨nI_pos' h, q⟩⟩
theorem m1_lt {n : Nat} (h : n < 2 ^ 31) : (-1 : Int32) < nI n := by
  rw [Int32.lt_iff_toInt_lt, nI_toInt h]
  have : (-1 : Int32).toInt = -1 := by decide
  omega
theorem m1_ne {n : Nat} (h : n < 2 ^ 31) : (-1 : Int32) ≠ nI n := fun q => by
  have := m1_lt h
  rw [q] at this
  exact absurd this Int32.lt_irrefl
theorem nI_m1 {n : Nat} (h : n < 2 ^ 31) : nI n = (-1 : Int32) ↔ False := ⟨fun q => absurd q.symm (m1_ne h), fun q => q.elim⟩
/-- signs of texts -/
def okc (c : Int32) : Prop := 32 ≤ c ∧ c ≤ 126
def oks (s : List Int32) : Prop := ∀ c ∈ s, okc c
theorem okc_n {c : Int32} (h : okc c) : ∃ n, 32 ≤ n ∧ n ≤ 126 ∧ c = nI n := by
  obtain ⟨h1, h2⟩ := h
  have h0 : ¬ c < 0 := fun q => by
    rw [Int32.le_iff_toInt_le] at h1
    rw [Int32.lt_iff_toInt_lt] at q
    have a : (32 : Int32).toInt = 32 := by decide
    have b : (0 : Int32).toInt = 0 := by decide
    omega
  obtain ⟨j, hj, rfl⟩ := nI_of2 (M := 126) (n := 126) (by decide) h0 h2
  refine ⟨j, ?_, hj, rfl⟩
  rw [iL, nI_leI (by decide) (by omega)] at h1
  exact h1
theorem okc_of {n : Nat} (h1 : 32 ≤ n) (h2 : n ≤ 126) : okc (nI n) := by
  constructor
  · rw [iL, nI_leI (by decide) (by omega)]; exact h1
  · rw [iL, nI_leI (by omega) (by decide)]; exact h2
theorem okc_ne {c : Int32} (h : okc c) : c ≠ -1 := by
  obtain ⟨n, h1, h2, rfl⟩ := okc_n h
  exact fun q => m1_ne (by omega) q.symm
/-- a char cast leaves a sign as it is -/
theorem okc_nar {c : Int32} (h : okc c) : vp_nar .char ((c.toUInt32 % 65536).toInt32) = c := by
  obtain ⟨n, h1, h2, rfl⟩ := okc_n h
  have hall : ∀ n, n < 127 → vp_nar .char (((nI n).toUInt32 % 65536).toInt32) = nI n := by decide +kernel
  exact hall n (by omega)
/-- the sign at a place, -1 behind the end -/
abbrev g (s : List Int32) (i : Nat) : Int32 := s.getD i (-1)
theorem g_lt {s : List Int32} {i : Nat} (h : i < s.length) : g s i = s[i] := by simp [g, h]
theorem g_ge {s : List Int32} {i : Nat} (h : s.length ≤ i) : g s i = -1 := by simp [g, h]
theorem g_ok {s : List Int32} {i : Nat} (hs : oks s) (h : i < s.length) : okc (g s i) := by
  rw [g_lt h]; exact hs _ (List.getElem_mem h)
theorem g_in {s : List Int32} {i : Nat} {c : Int32} (h : g s i = c) (hc : c ≠ -1) : i < s.length := by
  rcases Nat.lt_or_ge i s.length with q | q
  · exact q
  · exact absurd ((g_ge q).symm.trans h).symm hc
theorem fu_pos {n : Nat} (h : n < 16384) : ∃ f, FU = n + f + 1 := ⟨16383 - n, by unfold FU; omega⟩
