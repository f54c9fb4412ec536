/-! a new reference -/
def put (A : Hp) (a : Nat) : Nat → List Int32 → Hp
  | _, [] => A
  | i, c :: l => put (hsI A 1033 a i c) a (i + 1) l
def wrd (A : Hp) (M F : Nat) (l : List Int32) : Hp := hsR (put (hmk A 9 l.length) (hsz A) 0 l) F M 0 (hsz A)
theorem put_spec : ∀ (l : List Int32) (A : Hp) (a i : Nat), hsz (put A a i l) = hsz A ∧ (∀ q, hsh (put A a i l) q = hsh A q) ∧ (∀ f q j, hgR (put A a i l) f q j = hgR A f q j) ∧ (∀ f q j, hgL (put A a i l) f q j = hgL A f q j) ∧ (∀ f q j, q ≠ a → hgI (put A a i l) f q j = hgI A f q j) ∧ (∀ j, j < i → hgI (put A a i l) 1033 a j = hgI A 1033 a j) ∧ ∀ j, j < l.length → hgI (put A a i l) 1033 a (i + j) = g l j := by
  intro l
  induction l with
  | nil => intro A a i; exact ⟨rfl, fun _ => rfl, fun _ _ _ => rfl, fun _ _ _ => rfl, fun _ _ _ _ => rfl, fun _ _ => rfl, fun j hj => absurd hj (Nat.not_lt_zero j)⟩
  | cons c l ih =>
    intro A a i
    obtain ⟨h1, h2, h3, h4, h5, h6, h7⟩ := ih (hsI A 1033 a i c) a (i + 1)
    show hsz (put (hsI A 1033 a i c) a (i + 1) l) = _ ∧ (∀ q, hsh (put (hsI A 1033 a i c) a (i + 1) l) q = _) ∧ (∀ f q j, hgR (put (hsI A 1033 a i c) a (i + 1) l) f q j = _) ∧ (∀ f q j, hgL (put (hsI A 1033 a i c) a (i + 1) l) f q j = _) ∧ (∀ f q j, q ≠ a → hgI (put (hsI A 1033 a i c) a (i + 1) l) f q j = _) ∧ (∀ j, j < i → hgI (put (hsI A 1033 a i c) a (i + 1) l) 1033 a j = _) ∧ ∀ j, j < (c :: l).length → hgI (put (hsI A 1033 a i c) a (i + 1) l) 1033 a (i + j) = _
    refine ⟨h1, h2, h3, h4, fun f q j hq => ?_, fun j hj => ?_, fun j hj => ?_⟩
    · rw [h5 f q j hq, hgI_sI, if_neg (fun z => hq z.2.1)]
    · rw [h6 j (by omega), hgI_sI, if_neg (by omega)]
    · cases j with
      | zero => exact (h6 i (Nat.lt_succ_self i)).trans (by rw [hgI_sI, if_pos ⟨rfl, rfl, rfl⟩]; rfl)
      | succ j => rw [show i + (j + 1) = i + 1 + j by omega, h7 j (Nat.lt_of_succ_lt_succ hj)]; rfl
theorem mkw (A : Hp) (k n : Nat) : hsh (hmk A k n) (hsz A) = (k, n) := by rw [hsh_mk, if_pos rfl]
theorem mkx {A : Hp} {M : Nat} (h : M < hsz A) (k n : Nat) : hsh (hmk A k n) M = hsh A M := by rw [hsh_mk, if_neg (by omega)]
def Wst (A0 A : Hp) (M k : Nat) : Prop := hsz A = M + 4 + k ∧ Ew (fun q => q = M ∨ M + 4 ≤ q) A0 A ∧ ((∀ f j, hgI A f M j = hgI A0 f M j) ∧ (∀ f j, hgL A f M j = hgL A0 f M j) ∧ hsh A M = hsh A0 M ∧ ∀ f, f < 453 → hgR A f M 0 = hgR A0 f M 0) ∧ ∀ j, j < k → hgR A (453 + j) M 0 = M + 4 + j ∧ hsh A (M + 4 + j) = (9, (wdl j).length) ∧ ∀ i, i < (wdl j).length → hgI A 1033 (M + 4 + j) i = g (wdl j) i
theorem Wst.step {A0 A : Hp} {M k : Nat} (h : Wst A0 A M k) : Wst A0 (wrd A M (453 + k) (wdl k)) M (k + 1) := by
  obtain ⟨h1, h2, ⟨h3, h4, h5, h6⟩, h7⟩ := h
  obtain ⟨p1, p2, p3, p4, p5, p6, p7⟩ := put_spec (wdl k) (hmk A 9 (wdl k).length) (hsz A) 0
  unfold wrd
  have ne : M ≠ hsz A := by omega
  refine ⟨by rw [hsz_sR, p1, hsz_mk]; omega, fun a ha => ?_, ⟨fun f j => ?_, fun f j => ?_, ?_, fun f hf => ?_⟩, fun j hj => ⟨?_, ?_, fun i hi => ?_⟩⟩
  · obtain ⟨e1, e2, e3, e4⟩ := h2 a ha
    have hs : a ≠ hsz A := fun z => ha (Or.inr (by omega))
    exact ⟨fun f j => by rw [hgI_sR, p5 f a j hs, hgI_mk, if_neg hs]; exact e1 f j, fun f j => by rw [hgL_sR, p4, hgL_mk, if_neg hs]; exact e2 f j, fun f j => by rw [hgR_sR, if_neg (fun z => ha (Or.inl z.2.1)), p3, hgR_mk, if_neg hs]; exact e3 f j, by rw [hsh_sR, p2, hsh_mk, if_neg hs]; exact e4⟩
  · rw [hgI_sR, p5 f M j ne, hgI_mk, if_neg ne]; exact h3 f j
  · rw [hgL_sR, p4, hgL_mk, if_neg ne]; exact h4 f j
  · rw [hsh_sR, p2, hsh_mk, if_neg ne]; exact h5
  · rw [hgR_sR, if_neg (by omega), p3, hgR_mk, if_neg ne]; exact h6 f hf
  · by_cases z : j = k
    · rw [hgR_sR, if_pos ⟨by omega, rfl, rfl⟩]; omega
    · rw [hgR_sR, if_neg (by omega), p3, hgR_mk, if_neg ne]; exact (h7 j (by omega)).1
  · by_cases z : j = k
    · rw [hsh_sR, p2, hsh_mk, if_pos (by omega), z]
    · rw [hsh_sR, p2, hsh_mk, if_neg (by omega)]; exact (h7 j (by omega)).2.1
  · by_cases z : j = k
    · rw [z] at hi ⊢
      have := p7 i hi
      rw [Nat.zero_add] at this
      rw [hgI_sR, ← h1]; exact this
    · rw [hgI_sR, p5 1033 _ i (by omega), hgI_mk, if_neg (by omega)]; exact (h7 j (by omega)).2.2 i hi
theorem ini_29 {A : Hp} {M : Nat} (h8 : (hsh A M).1 = 8) (hM : M < hsz A) : k_X9_init_29 A M = k_X9_init_56 (wrd A M 453 (wdl 0)) M := by
  have hM1 : M < hsz A + 1 := by omega
  unfold k_X9_init_29
  iterate 6 (refine (if_pos (by first | (simp only [hsh_sI, hsh_sR, mkw]; done) | (simp only [hsh_sI, hsh_sR, mkw]; decide) | (simp only [hsh_sI, hsh_sR, mkx, hsz_sR, hsz_sI, hsz_mk, hM, hM1]; exact h8))).trans ?_)
  simp only [show (0 : Int32).toNatClampNeg = 0 by decide, show (1 : Int32).toNatClampNeg = 1 by decide, show (2 : Int32).toNatClampNeg = 2 by decide, show (3 : Int32).toNatClampNeg = 3 by decide, show vp_nar .char (104 : Int32) = 104 by decide, show vp_nar .char (112 : Int32) = 112 by decide, show vp_nar .char (116 : Int32) = 116 by decide]
  rfl
theorem ini_56 {A : Hp} {M : Nat} (h8 : (hsh A M).1 = 8) (hM : M < hsz A) : k_X9_init_56 A M = k_X9_init_122 (wrd (wrd A M 454 (wdl 1)) M 455 (wdl 2)) M := by
  have hM1 : M < hsz A + 1 := by omega
  unfold k_X9_init_56
  iterate 14 (refine (if_pos (by first | (simp only [hsh_sI, hsh_sR, mkw]; done) | (simp only [hsh_sI, hsh_sR, mkw]; decide) | (simp only [hsh_sI, hsh_sR, mkx, hsz_sR, hsz_sI, hsz_mk, hM, hM1]; exact h8) | ((try simp only [hsh_sI, hsh_sR]); rw [mkx (show M < _ by simp only [hsz_sR, hsz_sI, hsz_mk]; omega)]; (try simp only [hsh_sI, hsh_sR]); rw [mkx hM]; exact h8))).trans ?_)
  simp only [show (0 : Int32).toNatClampNeg = 0 by decide, show (1 : Int32).toNatClampNeg = 1 by decide, show (2 : Int32).toNatClampNeg = 2 by decide, show (3 : Int32).toNatClampNeg = 3 by decide, show (4 : Int32).toNatClampNeg = 4 by decide, show (5 : Int32).toNatClampNeg = 5 by decide, show (6 : Int32).toNatClampNeg = 6 by decide, show vp_nar .char (47 : Int32) = 47 by decide, show vp_nar .char (58 : Int32) = 58 by decide, show vp_nar .char (101 : Int32) = 101 by decide, show vp_nar .char (105 : Int32) = 105 by decide, show vp_nar .char (112 : Int32) = 112 by decide, show vp_nar .char (114 : Int32) = 114 by decide, show vp_nar .char (115 : Int32) = 115 by decide, show vp_nar .char (120 : Int32) = 120 by decide]
  rfl
theorem ini_122 {A : Hp} {M : Nat} (h8 : (hsh A M).1 = 8) (hM : M < hsz A) : k_X9_init_122 A M = k_X9_init_166 (wrd A M 456 (wdl 3)) M := by
  have hM1 : M < hsz A + 1 := by omega
  unfold k_X9_init_122
  iterate 9 (refine (if_pos (by first | (simp only [hsh_sI, hsh_sR, mkw]; done) | (simp only [hsh_sI, hsh_sR, mkw]; decide) | (simp only [hsh_sI, hsh_sR, mkx, hsz_sR, hsz_sI, hsz_mk, hM, hM1]; exact h8))).trans ?_)
  simp only [show (0 : Int32).toNatClampNeg = 0 by decide, show (1 : Int32).toNatClampNeg = 1 by decide, show (2 : Int32).toNatClampNeg = 2 by decide, show (3 : Int32).toNatClampNeg = 3 by decide, show (4 : Int32).toNatClampNeg = 4 by decide, show (5 : Int32).toNatClampNeg = 5 by decide, show (6 : Int32).toNatClampNeg = 6 by decide, show vp_nar .char (45 : Int32) = 45 by decide, show vp_nar .char (97 : Int32) = 97 by decide, show vp_nar .char (101 : Int32) = 101 by decide, show vp_nar .char (103 : Int32) = 103 by decide, show vp_nar .char (109 : Int32) = 109 by decide, show vp_nar .char (120 : Int32) = 120 by decide]
  rfl
theorem ini_166 {A : Hp} {M : Nat} (h8 : (hsh A M).1 = 8) (hM : M < hsz A) : k_X9_init_166 A M = k_X9_init_204 (wrd A M 457 (wdl 4)) M := by
  have hM1 : M < hsz A + 1 := by omega
  unfold k_X9_init_166
  iterate 8 (refine (if_pos (by first | (simp only [hsh_sI, hsh_sR, mkw]; done) | (simp only [hsh_sI, hsh_sR, mkw]; decide) | (simp only [hsh_sI, hsh_sR, mkx, hsz_sR, hsz_sI, hsz_mk, hM, hM1]; exact h8))).trans ?_)
  simp only [show (0 : Int32).toNatClampNeg = 0 by decide, show (1 : Int32).toNatClampNeg = 1 by decide, show (2 : Int32).toNatClampNeg = 2 by decide, show (3 : Int32).toNatClampNeg = 3 by decide, show (4 : Int32).toNatClampNeg = 4 by decide, show (5 : Int32).toNatClampNeg = 5 by decide, show vp_nar .char (97 : Int32) = 97 by decide, show vp_nar .char (100 : Int32) = 100 by decide, show vp_nar .char (105 : Int32) = 105 by decide, show vp_nar .char (109 : Int32) = 109 by decide, show vp_nar .char (110 : Int32) = 110 by decide, show vp_nar .char (111 : Int32) = 111 by decide]
  rfl
theorem ini_204 {A : Hp} {M : Nat} (h8 : (hsh A M).1 = 8) (hM : M < hsz A) : k_X9_init_204 A M = k_X9_init_231 (wrd A M 458 (wdl 5)) M := by
  have hM1 : M < hsz A + 1 := by omega
  unfold k_X9_init_204
  iterate 6 (refine (if_pos (by first | (simp only [hsh_sI, hsh_sR, mkw]; done) | (simp only [hsh_sI, hsh_sR, mkw]; decide) | (simp only [hsh_sI, hsh_sR, mkx, hsz_sR, hsz_sI, hsz_mk, hM, hM1]; exact h8))).trans ?_)
  simp only [show (0 : Int32).toNatClampNeg = 0 by decide, show (1 : Int32).toNatClampNeg = 1 by decide, show (2 : Int32).toNatClampNeg = 2 by decide, show (3 : Int32).toNatClampNeg = 3 by decide, show vp_nar .char (97 : Int32) = 97 by decide, show vp_nar .char (104 : Int32) = 104 by decide, show vp_nar .char (112 : Int32) = 112 by decide, show vp_nar .char (116 : Int32) = 116 by decide]
  rfl
theorem ini_231 {A : Hp} {M : Nat} (h8 : (hsh A M).1 = 8) (hM : M < hsz A) : k_X9_init_231 A M = k_X9_init_269 (wrd A M 459 (wdl 6)) M := by
  have hM1 : M < hsz A + 1 := by omega
  unfold k_X9_init_231
  iterate 8 (refine (if_pos (by first | (simp only [hsh_sI, hsh_sR, mkw]; done) | (simp only [hsh_sI, hsh_sR, mkw]; decide) | (simp only [hsh_sI, hsh_sR, mkx, hsz_sR, hsz_sI, hsz_mk, hM, hM1]; exact h8))).trans ?_)
  simp only [show (0 : Int32).toNatClampNeg = 0 by decide, show (1 : Int32).toNatClampNeg = 1 by decide, show (2 : Int32).toNatClampNeg = 2 by decide, show (3 : Int32).toNatClampNeg = 3 by decide, show (4 : Int32).toNatClampNeg = 4 by decide, show (5 : Int32).toNatClampNeg = 5 by decide, show vp_nar .char (99 : Int32) = 99 by decide, show vp_nar .char (101 : Int32) = 101 by decide, show vp_nar .char (114 : Int32) = 114 by decide, show vp_nar .char (115 : Int32) = 115 by decide, show vp_nar .char (117 : Int32) = 117 by decide]
  rfl
theorem ini_269 {A : Hp} {M : Nat} (h8 : (hsh A M).1 = 8) (hM : M < hsz A) : k_X9_init_269 A M = k_X9_init_319 (wrd A M 460 (wdl 7)) M := by
  have hM1 : M < hsz A + 1 := by omega
  unfold k_X9_init_269
  iterate 10 (refine (if_pos (by first | (simp only [hsh_sI, hsh_sR, mkw]; done) | (simp only [hsh_sI, hsh_sR, mkw]; decide) | (simp only [hsh_sI, hsh_sR, mkx, hsz_sR, hsz_sI, hsz_mk, hM, hM1]; exact h8))).trans ?_)
  simp only [show (0 : Int32).toNatClampNeg = 0 by decide, show (1 : Int32).toNatClampNeg = 1 by decide, show (2 : Int32).toNatClampNeg = 2 by decide, show (3 : Int32).toNatClampNeg = 3 by decide, show (4 : Int32).toNatClampNeg = 4 by decide, show (5 : Int32).toNatClampNeg = 5 by decide, show (6 : Int32).toNatClampNeg = 6 by decide, show (7 : Int32).toNatClampNeg = 7 by decide, show vp_nar .char (104 : Int32) = 104 by decide, show vp_nar .char (108 : Int32) = 108 by decide, show vp_nar .char (110 : Int32) = 110 by decide, show vp_nar .char (111 : Int32) = 111 by decide, show vp_nar .char (112 : Int32) = 112 by decide, show vp_nar .char (116 : Int32) = 116 by decide, show vp_nar .char (121 : Int32) = 121 by decide]
  rfl
theorem ini_319 {A : Hp} {M : Nat} (h8 : (hsh A M).1 = 8) (hM : M < hsz A) : k_X9_init_319 A M = k_X9_init_369 (wrd A M 461 (wdl 8)) M := by
  have hM1 : M < hsz A + 1 := by omega
  unfold k_X9_init_319
  iterate 10 (refine (if_pos (by first | (simp only [hsh_sI, hsh_sR, mkw]; done) | (simp only [hsh_sI, hsh_sR, mkw]; decide) | (simp only [hsh_sI, hsh_sR, mkx, hsz_sR, hsz_sI, hsz_mk, hM, hM1]; exact h8))).trans ?_)
  simp only [show (0 : Int32).toNatClampNeg = 0 by decide, show (1 : Int32).toNatClampNeg = 1 by decide, show (2 : Int32).toNatClampNeg = 2 by decide, show (3 : Int32).toNatClampNeg = 3 by decide, show (4 : Int32).toNatClampNeg = 4 by decide, show (5 : Int32).toNatClampNeg = 5 by decide, show (6 : Int32).toNatClampNeg = 6 by decide, show (7 : Int32).toNatClampNeg = 7 by decide, show vp_nar .char (97 : Int32) = 97 by decide, show vp_nar .char (101 : Int32) = 101 by decide, show vp_nar .char (105 : Int32) = 105 by decide, show vp_nar .char (109 : Int32) = 109 by decide, show vp_nar .char (115 : Int32) = 115 by decide, show vp_nar .char (116 : Int32) = 116 by decide]
  rfl
theorem ini_369 {A : Hp} {M : Nat} (h8 : (hsh A M).1 = 8) (hM : M < hsz A) : k_X9_init_369 A M = k_X9_init_419 (wrd A M 462 (wdl 9)) M := by
  have hM1 : M < hsz A + 1 := by omega
  unfold k_X9_init_369
  iterate 10 (refine (if_pos (by first | (simp only [hsh_sI, hsh_sR, mkw]; done) | (simp only [hsh_sI, hsh_sR, mkw]; decide) | (simp only [hsh_sI, hsh_sR, mkx, hsz_sR, hsz_sI, hsz_mk, hM, hM1]; exact h8))).trans ?_)
  simp only [show (0 : Int32).toNatClampNeg = 0 by decide, show (1 : Int32).toNatClampNeg = 1 by decide, show (2 : Int32).toNatClampNeg = 2 by decide, show (3 : Int32).toNatClampNeg = 3 by decide, show (4 : Int32).toNatClampNeg = 4 by decide, show (5 : Int32).toNatClampNeg = 5 by decide, show (6 : Int32).toNatClampNeg = 6 by decide, show (7 : Int32).toNatClampNeg = 7 by decide, show vp_nar .char (105 : Int32) = 105 by decide, show vp_nar .char (111 : Int32) = 111 by decide, show vp_nar .char (112 : Int32) = 112 by decide, show vp_nar .char (114 : Int32) = 114 by decide, show vp_nar .char (116 : Int32) = 116 by decide, show vp_nar .char (121 : Int32) = 121 by decide]
  rfl
theorem ini_419 {A : Hp} {M : Nat} (h8 : (hsh A M).1 = 8) (hM : M < hsz A) : k_X9_init_419 A M = k_X9_init_446 (wrd A M 463 (wdl 10)) M := by
  have hM1 : M < hsz A + 1 := by omega
  unfold k_X9_init_419
  iterate 6 (refine (if_pos (by first | (simp only [hsh_sI, hsh_sR, mkw]; done) | (simp only [hsh_sI, hsh_sR, mkw]; decide) | (simp only [hsh_sI, hsh_sR, mkx, hsz_sR, hsz_sI, hsz_mk, hM, hM1]; exact h8))).trans ?_)
  simp only [show (0 : Int32).toNatClampNeg = 0 by decide, show (1 : Int32).toNatClampNeg = 1 by decide, show (2 : Int32).toNatClampNeg = 2 by decide, show (3 : Int32).toNatClampNeg = 3 by decide, show vp_nar .char (101 : Int32) = 101 by decide, show vp_nar .char (110 : Int32) = 110 by decide, show vp_nar .char (111 : Int32) = 111 by decide]
  rfl
theorem ini_446 {A : Hp} {M : Nat} (h8 : (hsh A M).1 = 8) (hM : M < hsz A) : k_X9_init_446 A M = k_X9_init_506 (wrd (wrd A M 464 (wdl 11)) M 465 (wdl 12)) M := by
  have hM1 : M < hsz A + 1 := by omega
  unfold k_X9_init_446
  iterate 13 (refine (if_pos (by first | (simp only [hsh_sI, hsh_sR, mkw]; done) | (simp only [hsh_sI, hsh_sR, mkw]; decide) | (simp only [hsh_sI, hsh_sR, mkx, hsz_sR, hsz_sI, hsz_mk, hM, hM1]; exact h8) | ((try simp only [hsh_sI, hsh_sR]); rw [mkx (show M < _ by simp only [hsz_sR, hsz_sI, hsz_mk]; omega)]; (try simp only [hsh_sI, hsh_sR]); rw [mkx hM]; exact h8))).trans ?_)
  simp only [show (0 : Int32).toNatClampNeg = 0 by decide, show (1 : Int32).toNatClampNeg = 1 by decide, show (2 : Int32).toNatClampNeg = 2 by decide, show (3 : Int32).toNatClampNeg = 3 by decide, show (4 : Int32).toNatClampNeg = 4 by decide, show (5 : Int32).toNatClampNeg = 5 by decide, show vp_nar .char (97 : Int32) = 97 by decide, show vp_nar .char (99 : Int32) = 99 by decide, show vp_nar .char (105 : Int32) = 105 by decide, show vp_nar .char (108 : Int32) = 108 by decide, show vp_nar .char (114 : Int32) = 114 by decide, show vp_nar .char (115 : Int32) = 115 by decide, show vp_nar .char (116 : Int32) = 116 by decide, show vp_nar .char (120 : Int32) = 120 by decide]
  rfl
theorem ini_506 {A : Hp} {M : Nat} (h8 : (hsh A M).1 = 8) (hM : M < hsz A) : k_X9_init_506 A M = k_X9_init_566 (wrd (wrd A M 466 (wdl 13)) M 467 (wdl 14)) M := by
  have hM1 : M < hsz A + 1 := by omega
  unfold k_X9_init_506
  iterate 13 (refine (if_pos (by first | (simp only [hsh_sI, hsh_sR, mkw]; done) | (simp only [hsh_sI, hsh_sR, mkw]; decide) | (simp only [hsh_sI, hsh_sR, mkx, hsz_sR, hsz_sI, hsz_mk, hM, hM1]; exact h8) | ((try simp only [hsh_sI, hsh_sR]); rw [mkx (show M < _ by simp only [hsz_sR, hsz_sI, hsz_mk]; omega)]; (try simp only [hsh_sI, hsh_sR]); rw [mkx hM]; exact h8))).trans ?_)
  simp only [show (0 : Int32).toNatClampNeg = 0 by decide, show (1 : Int32).toNatClampNeg = 1 by decide, show (2 : Int32).toNatClampNeg = 2 by decide, show (3 : Int32).toNatClampNeg = 3 by decide, show (4 : Int32).toNatClampNeg = 4 by decide, show (5 : Int32).toNatClampNeg = 5 by decide, show vp_nar .char (100 : Int32) = 100 by decide, show vp_nar .char (101 : Int32) = 101 by decide, show vp_nar .char (105 : Int32) = 105 by decide, show vp_nar .char (108 : Int32) = 108 by decide, show vp_nar .char (109 : Int32) = 109 by decide, show vp_nar .char (111 : Int32) = 111 by decide, show vp_nar .char (117 : Int32) = 117 by decide, show vp_nar .char (119 : Int32) = 119 by decide]
  rfl
theorem ini_566 {A : Hp} {M : Nat} (h8 : (hsh A M).1 = 8) (hM : M < hsz A) : k_X9_init_566 A M = k_X9_init_593 (wrd A M 468 (wdl 15)) M := by
  have hM1 : M < hsz A + 1 := by omega
  unfold k_X9_init_566
  iterate 6 (refine (if_pos (by first | (simp only [hsh_sI, hsh_sR, mkw]; done) | (simp only [hsh_sI, hsh_sR, mkw]; decide) | (simp only [hsh_sI, hsh_sR, mkx, hsz_sR, hsz_sI, hsz_mk, hM, hM1]; exact h8))).trans ?_)
  simp only [show (0 : Int32).toNatClampNeg = 0 by decide, show (1 : Int32).toNatClampNeg = 1 by decide, show (2 : Int32).toNatClampNeg = 2 by decide, show (3 : Int32).toNatClampNeg = 3 by decide, show vp_nar .char (103 : Int32) = 103 by decide, show vp_nar .char (104 : Int32) = 104 by decide, show vp_nar .char (105 : Int32) = 105 by decide]
  rfl
theorem ini_593 {A : Hp} {M : Nat} (h8 : (hsh A M).1 = 8) (hM : M < hsz A) : k_X9_init_593 A M = k_X9_init_649 (wrd A M 469 (wdl 16)) M := by
  have hM1 : M < hsz A + 1 := by omega
  unfold k_X9_init_593
  iterate 11 (refine (if_pos (by first | (simp only [hsh_sI, hsh_sR, mkw]; done) | (simp only [hsh_sI, hsh_sR, mkw]; decide) | (simp only [hsh_sI, hsh_sR, mkx, hsz_sR, hsz_sI, hsz_mk, hM, hM1]; exact h8))).trans ?_)
  simp only [show (0 : Int32).toNatClampNeg = 0 by decide, show (1 : Int32).toNatClampNeg = 1 by decide, show (2 : Int32).toNatClampNeg = 2 by decide, show (3 : Int32).toNatClampNeg = 3 by decide, show (4 : Int32).toNatClampNeg = 4 by decide, show (5 : Int32).toNatClampNeg = 5 by decide, show (6 : Int32).toNatClampNeg = 6 by decide, show (7 : Int32).toNatClampNeg = 7 by decide, show (8 : Int32).toNatClampNeg = 8 by decide, show vp_nar .char (45 : Int32) = 45 by decide, show vp_nar .char (83 : Int32) = 83 by decide, show vp_nar .char (95 : Int32) = 95 by decide, show vp_nar .char (99 : Int32) = 99 by decide, show vp_nar .char (101 : Int32) = 101 by decide, show vp_nar .char (114 : Int32) = 114 by decide, show vp_nar .char (117 : Int32) = 117 by decide]
  rfl
theorem ini_649 {A : Hp} {M : Nat} (h8 : (hsh A M).1 = 8) (hM : M < hsz A) : k_X9_init_649 A M = k_X9_init_693 (wrd A M 470 (wdl 17)) M := by
  have hM1 : M < hsz A + 1 := by omega
  unfold k_X9_init_649
  iterate 9 (refine (if_pos (by first | (simp only [hsh_sI, hsh_sR, mkw]; done) | (simp only [hsh_sI, hsh_sR, mkw]; decide) | (simp only [hsh_sI, hsh_sR, mkx, hsz_sR, hsz_sI, hsz_mk, hM, hM1]; exact h8))).trans ?_)
  simp only [show (0 : Int32).toNatClampNeg = 0 by decide, show (1 : Int32).toNatClampNeg = 1 by decide, show (2 : Int32).toNatClampNeg = 2 by decide, show (3 : Int32).toNatClampNeg = 3 by decide, show (4 : Int32).toNatClampNeg = 4 by decide, show (5 : Int32).toNatClampNeg = 5 by decide, show (6 : Int32).toNatClampNeg = 6 by decide, show vp_nar .char (45 : Int32) = 45 by decide, show vp_nar .char (72 : Int32) = 72 by decide, show vp_nar .char (95 : Int32) = 95 by decide, show vp_nar .char (111 : Int32) = 111 by decide, show vp_nar .char (115 : Int32) = 115 by decide, show vp_nar .char (116 : Int32) = 116 by decide]
  rfl
theorem ini_693 {A : Hp} {M : Nat} (h8 : (hsh A M).1 = 8) (hM : M < hsz A) : k_X9_init_693 A M = k_X9_init_911 (wrd A M 471 (wdl 18)) M := by
  have hM1 : M < hsz A + 1 := by omega
  unfold k_X9_init_693
  iterate 38 (refine (if_pos (by first | (simp only [hsh_sI, hsh_sR, mkw]; done) | (simp only [hsh_sI, hsh_sR, mkw]; decide) | (simp only [hsh_sI, hsh_sR, mkx, hsz_sR, hsz_sI, hsz_mk, hM, hM1]; exact h8))).trans ?_)
  simp only [show (0 : Int32).toNatClampNeg = 0 by decide, show (1 : Int32).toNatClampNeg = 1 by decide, show (2 : Int32).toNatClampNeg = 2 by decide, show (3 : Int32).toNatClampNeg = 3 by decide, show (4 : Int32).toNatClampNeg = 4 by decide, show (5 : Int32).toNatClampNeg = 5 by decide, show (6 : Int32).toNatClampNeg = 6 by decide, show (7 : Int32).toNatClampNeg = 7 by decide, show (8 : Int32).toNatClampNeg = 8 by decide, show (9 : Int32).toNatClampNeg = 9 by decide, show (10 : Int32).toNatClampNeg = 10 by decide, show (11 : Int32).toNatClampNeg = 11 by decide, show (12 : Int32).toNatClampNeg = 12 by decide, show (13 : Int32).toNatClampNeg = 13 by decide, show (14 : Int32).toNatClampNeg = 14 by decide, show (15 : Int32).toNatClampNeg = 15 by decide, show (16 : Int32).toNatClampNeg = 16 by decide, show (17 : Int32).toNatClampNeg = 17 by decide, show (18 : Int32).toNatClampNeg = 18 by decide, show (19 : Int32).toNatClampNeg = 19 by decide, show (20 : Int32).toNatClampNeg = 20 by decide, show (21 : Int32).toNatClampNeg = 21 by decide, show (22 : Int32).toNatClampNeg = 22 by decide, show (23 : Int32).toNatClampNeg = 23 by decide, show (24 : Int32).toNatClampNeg = 24 by decide, show (25 : Int32).toNatClampNeg = 25 by decide, show (26 : Int32).toNatClampNeg = 26 by decide, show (27 : Int32).toNatClampNeg = 27 by decide, show (28 : Int32).toNatClampNeg = 28 by decide, show (29 : Int32).toNatClampNeg = 29 by decide, show (30 : Int32).toNatClampNeg = 30 by decide, show (31 : Int32).toNatClampNeg = 31 by decide, show (32 : Int32).toNatClampNeg = 32 by decide, show (33 : Int32).toNatClampNeg = 33 by decide, show (34 : Int32).toNatClampNeg = 34 by decide, show (35 : Int32).toNatClampNeg = 35 by decide, show vp_nar .char (65 : Int32) = 65 by decide, show vp_nar .char (68 : Int32) = 68 by decide, show vp_nar .char (70 : Int32) = 70 by decide, show vp_nar .char (74 : Int32) = 74 by decide, show vp_nar .char (77 : Int32) = 77 by decide, show vp_nar .char (78 : Int32) = 78 by decide, show vp_nar .char (79 : Int32) = 79 by decide, show vp_nar .char (83 : Int32) = 83 by decide, show vp_nar .char (97 : Int32) = 97 by decide, show vp_nar .char (98 : Int32) = 98 by decide, show vp_nar .char (99 : Int32) = 99 by decide, show vp_nar .char (101 : Int32) = 101 by decide, show vp_nar .char (103 : Int32) = 103 by decide, show vp_nar .char (108 : Int32) = 108 by decide, show vp_nar .char (110 : Int32) = 110 by decide, show vp_nar .char (111 : Int32) = 111 by decide, show vp_nar .char (112 : Int32) = 112 by decide, show vp_nar .char (114 : Int32) = 114 by decide, show vp_nar .char (116 : Int32) = 116 by decide, show vp_nar .char (117 : Int32) = 117 by decide, show vp_nar .char (118 : Int32) = 118 by decide, show vp_nar .char (121 : Int32) = 121 by decide]
  rfl
theorem iniAll {A0 : Hp} {M : Nat} (h8 : (hsh A0 M).1 = 8) (hz : hsz A0 = M + 4) : ∃ A, k_X9_init_29 A0 M = k_X9_init_911 A M ∧ Wst A0 A M 19 := by
  have w0 : Wst A0 A0 M 0 := ⟨hz, Ew.rf, ⟨fun _ _ => rfl, fun _ _ => rfl, rfl, fun _ _ => rfl⟩, fun j hj => absurd hj (Nat.not_lt_zero j)⟩
  have h : ∀ {A : Hp} {k : Nat}, Wst A0 A M k → (hsh A M).1 = 8 ∧ M < hsz A := fun q => ⟨by rw [q.2.2.1.2.2.1]; exact h8, by rw [q.1]; omega⟩
  have w1 := w0.step
  have w2 := w1.step
  have w3 := w2.step
  have w4 := w3.step
  have w5 := w4.step
  have w6 := w5.step
  have w7 := w6.step
  have w8 := w7.step
  have w9 := w8.step
  have w10 := w9.step
  have w11 := w10.step
  have w12 := w11.step
  have w13 := w12.step
  have w14 := w13.step
  have w15 := w14.step
  have w16 := w15.step
  have w17 := w16.step
  have w18 := w17.step
  have w19 := w18.step
  exact ⟨_, (ini_29 (h w0).1 (h w0).2).trans ((ini_56 (h w1).1 (h w1).2).trans ((ini_122 (h w3).1 (h w3).2).trans ((ini_166 (h w4).1 (h w4).2).trans ((ini_204 (h w5).1 (h w5).2).trans ((ini_231 (h w6).1 (h w6).2).trans ((ini_269 (h w7).1 (h w7).2).trans ((ini_319 (h w8).1 (h w8).2).trans ((ini_369 (h w9).1 (h w9).2).trans ((ini_419 (h w10).1 (h w10).2).trans ((ini_446 (h w11).1 (h w11).2).trans ((ini_506 (h w13).1 (h w13).2).trans ((ini_566 (h w15).1 (h w15).2).trans ((ini_593 (h w16).1 (h w16).2).trans ((ini_649 (h w17).1 (h w17).2).trans ((ini_693 (h w18).1 (h w18).2)))))))))))))))), w19⟩
theorem Ms.init {A : Hp} {M : Nat} (hM : hsz A = M) : ∃ B, f_X9_init (hmk A 8 0) M = some B ∧ Ms B M ∧ Mw B M ∧ KpS B M ∧ hgI B 451 M 0 = 0 ∧ (∀ k, mu B M k = if k = 3 then lN 20 else if k = 2 then lN 5 else 0) ∧ (∀ i, hgI B 1036 (M + 3) i = 0) ∧ Ew (fun q => M ≤ q) A B ∧ hsz B = M + 23 := by
  subst hM
  have z0 : hsz (hmk A 8 0) = hsz A + 1 := rfl
  have s0 : hsh (hmk A 8 0) (hsz A) = (8, 0) := mkw A 8 0
  have i0 : ∀ f j, hgI (hmk A 8 0) f (hsz A) j = 0 := fun f j => by rw [hgI_mk, if_pos rfl]
  have e0 : Ew (fun q => hsz A ≤ q) A (hmk A 8 0) := (Ew.mk A 8 0).mo (fun q z => by omega)
  generalize hmk A 8 0 = H0 at *
  generalize hsz A = M at *
  unfold f_X9_init
  rw [if_pos (by rw [s0]), if_pos (by rw [mkx (by omega), s0]), z0]
  -- m
  have g1 : ∀ f, hgR (hsR (hmk H0 11 9000) 448 M 0 (M + 1)) f M 0 = if f = 448 then M + 1 else hgR H0 f M 0 := fun f => by
    rw [hgR_sR]
    by_cases z : f = 448
    · rw [if_pos ⟨z, rfl, rfl⟩, if_pos z]
    · rw [if_neg (fun y => z y.1), if_neg z, hgR_mk, if_neg (by omega)]
  have s1 : hsh (hsR (hmk H0 11 9000) 448 M 0 (M + 1)) M = (8, 0) := by rw [hsh_sR, mkx (by omega), s0]
  have z1 : hsz (hsR (hmk H0 11 9000) 448 M 0 (M + 1)) = M + 2 := by rw [hsz_sR, hsz_mk, z0]
  have m1 : hsh (hsR (hmk H0 11 9000) 448 M 0 (M + 1)) (M + 1) = (11, 9000) := by rw [hsh_sR, ← z0, mkw]
  have l1 : ∀ k, hgL (hsR (hmk H0 11 9000) 448 M 0 (M + 1)) 1035 (M + 1) k = 0 := fun k => by rw [hgL_sR, hgL_mk, if_pos z0.symm]
  have n1 : ∀ f j, hgI (hsR (hmk H0 11 9000) 448 M 0 (M + 1)) f M j = 0 := fun f j => by rw [hgI_sR, hgI_mk, if_neg (by omega)]; exact i0 f j
  have e1 : Ew (fun q => M ≤ q) A (hsR (hmk H0 11 9000) 448 M 0 (M + 1)) := (e0.tr ((Ew.mk H0 11 9000).mo (fun q z => by omega))).tr (ea_R.ew.mo (fun q z => by omega))
  generalize hsR (hmk H0 11 9000) 448 M 0 (M + 1) = H1 at *
  rw [if_pos (by rw [mkx (by omega), s1]), z1]
  -- kept
  have g2 : ∀ f, hgR (hsR (hmk H1 11 16800) 449 M 0 (M + 2)) f M 0 = if f = 449 then M + 2 else hgR H1 f M 0 := fun f => by
    rw [hgR_sR]
    by_cases z : f = 449
    · rw [if_pos ⟨z, rfl, rfl⟩, if_pos z]
    · rw [if_neg (fun y => z y.1), if_neg z, hgR_mk, if_neg (by omega)]
  have s2 : hsh (hsR (hmk H1 11 16800) 449 M 0 (M + 2)) M = (8, 0) := by rw [hsh_sR, mkx (by omega), s1]
  have z2 : hsz (hsR (hmk H1 11 16800) 449 M 0 (M + 2)) = M + 3 := by rw [hsz_sR, hsz_mk, z1]
  have m2 : hsh (hsR (hmk H1 11 16800) 449 M 0 (M + 2)) (M + 2) = (11, 16800) := by rw [hsh_sR, ← z1, mkw]
  have q2 : Ew (fun q => q = M ∨ M + 2 ≤ q) H1 (hsR (hmk H1 11 16800) 449 M 0 (M + 2)) := ((Ew.mk H1 11 16800).mo (fun q z => by omega)).tr (ea_R.ew.mo (fun q z => by omega))
  have n2 : ∀ f j, hgI (hsR (hmk H1 11 16800) 449 M 0 (M + 2)) f M j = 0 := fun f j => by rw [hgI_sR, hgI_mk, if_neg (by omega)]; exact n1 f j
  generalize hsR (hmk H1 11 16800) 449 M 0 (M + 2) = H2 at *
  rw [if_pos (by rw [mkx (by omega), s2]), z2]
  -- isKept
  have g3 : ∀ f, hgR (hsR (hmk H2 12 2) 450 M 0 (M + 3)) f M 0 = if f = 450 then M + 3 else hgR H2 f M 0 := fun f => by
    rw [hgR_sR]
    by_cases z : f = 450
    · rw [if_pos ⟨z, rfl, rfl⟩, if_pos z]
    · rw [if_neg (fun y => z y.1), if_neg z, hgR_mk, if_neg (by omega)]
  have s3 : hsh (hsR (hmk H2 12 2) 450 M 0 (M + 3)) M = (8, 0) := by rw [hsh_sR, mkx (by omega), s2]
  have z3 : hsz (hsR (hmk H2 12 2) 450 M 0 (M + 3)) = M + 4 := by rw [hsz_sR, hsz_mk, z2]
  have m3 : hsh (hsR (hmk H2 12 2) 450 M 0 (M + 3)) (M + 3) = (12, 2) := by rw [hsh_sR, ← z2, mkw]
  have k3 : ∀ i, hgI (hsR (hmk H2 12 2) 450 M 0 (M + 3)) 1036 (M + 3) i = 0 := fun i => by rw [hgI_sR, hgI_mk, if_pos z2.symm]
  have q3 : Ew (fun q => q = M ∨ M + 3 ≤ q) H2 (hsR (hmk H2 12 2) 450 M 0 (M + 3)) := ((Ew.mk H2 12 2).mo (fun q z => by omega)).tr (ea_R.ew.mo (fun q z => by omega))
  have n3 : ∀ f j, hgI (hsR (hmk H2 12 2) 450 M 0 (M + 3)) f M j = 0 := fun f j => by rw [hgI_sR, hgI_mk, if_neg (by omega)]; exact n2 f j
  generalize hsR (hmk H2 12 2) 450 M 0 (M + 3) = H3 at *
  obtain ⟨H4, a1, w1, w2, ⟨w3, w4, w5, w6⟩, w7⟩ := iniAll (A0 := H3) (M := M) (by rw [s3]) z3
  rw [a1]
  have r448 : hgR H4 448 M 0 = M + 1 := by rw [w6 _ (by omega), g3, if_neg (by omega), g2, if_neg (by omega), g1, if_pos rfl]
  have r449 : hgR H4 449 M 0 = M + 2 := by rw [w6 _ (by omega), g3, if_neg (by omega), g2, if_pos rfl]
  have r450 : hgR H4 450 M 0 = M + 3 := by rw [w6 _ (by omega), g3, if_pos rfl]
  have ms4 : Ms H4 M := ⟨by rw [w5, s3], r448, by rw [w2.S (by omega), q3.S (by omega), q2.S (by omega)]; exact m1⟩
  have l4 : ∀ k, mu H4 M k = 0 := fun k => (w2.L (by omega) 1035 k).trans ((q3.L (by omega) 1035 k).trans ((q2.L (by omega) 1035 k).trans (l1 k)))
  have e5 : Eqx (oP M) H4 (hsL (hsL H4 1035 (M + 1) 2 (lN 5)) 1035 (M + 1) 3 (lN 20)) := Eqx.tr (Eqx.sL rfl) (Eqx.sL rfl)
  have ms5 : Ms (hsL H4 1035 (M + 1) (2 : Int32).toNatClampNeg (lN 5)) M := ms4.set
  have hne : ¬ oP M M := show ¬ M = M + 1 by omega
  refine ⟨hsL (hsL H4 1035 (M + 1) 2 (lN 5)) 1035 (M + 1) 3 (lN 20), ?_, ms4.eq e5 hne, fun k hk => ?_, ⟨by rw [e5.R hne]; exact r449, by rw [e5.2.1, w2.S (by omega), q3.S (by omega)]; exact m2, by rw [e5.R hne]; exact r450, by rw [e5.2.1, w2.S (by omega)]; exact m3⟩, by rw [e5.I hne, w3]; exact n3 _ _, fun k => ?_, fun i => by rw [e5.I (show ¬ M + 3 = M + 1 by omega), w2.I (by omega)]; exact k3 i, ?_, by rw [e5.2.2]; omega⟩
  · unfold k_X9_init_911
    rw [if_pos ms4.1, if_pos ms4.a11, if_pos (show wix (2 : Int32) _ from ms4.wx (i := 2) (by omega)), ms4.2.1]
    show (if (hsh (hsL H4 1035 (M + 1) (2 : Int32).toNatClampNeg (lN 5)) (hgR (hsL H4 1035 (M + 1) (2 : Int32).toNatClampNeg (lN 5)) 448 M 0)).1 = 11 then _ else _) = _
    rw [if_pos ms5.a11]
    refine (if_pos (show wix (3 : Int32) _ from ms5.wx (i := 3) (by omega))).trans ?_
    show some (hsL (hsL H4 1035 (M + 1) (2 : Int32).toNatClampNeg (lN 5)) 1035 (hgR (hsL H4 1035 (M + 1) (2 : Int32).toNatClampNeg (lN 5)) 448 M 0) (3 : Int32).toNatClampNeg (lN 20)) = _
    rw [ms5.2.1]
    rfl
  · obtain ⟨y1, y2, y3⟩ := w7 k hk
    exact ⟨by rw [e5.R hne]; exact y1, by rw [e5.2.1]; exact y2, fun i hi => by rw [e5.I (show ¬ M + 4 + k = M + 1 by omega)]; exact y3 i hi⟩
  · rw [mu_set, mu_set, l4]
  · exact (((e1.tr (q2.mo (fun q z => by omega))).tr (q3.mo (fun q z => by omega))).tr (w2.mo (fun q z => by omega))).tr (e5.ew.mo (fun q z => by have z : q = M + 1 := z; omega))
