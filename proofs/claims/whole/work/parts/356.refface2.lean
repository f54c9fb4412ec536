/-! the reference: its face, cookies by their index -/
section
variable {A : Hp} {M : Nat} {t : List Int32} {v : JV} {ms : List CkV} {n : Nat}
theorem lk_in {j l : Nat} (hj : j < l) (hl : l ≤ 41) : decide (0 ≤ nI j ∧ nI j < nI l) = true := decide_eq_true ⟨nI_pos' (by omega), nI_lt hj (by omega)⟩
/-- where the cookie of an index lies -/
theorem JM.at (h : Ms A M) (hJ : JM (mu A M) v ms n) (p : ms.Perm (jC v)) (hs : srt (jC v)) (ho : okl ms) {k : Nat} (hk : k < (jC v).length) : ∃ j, f_X9_placeOf A M (nI k) = some (nI j) ∧ j < ms.length ∧ cg ms j = cg (jC v) k := by
  have hml := hJ.2.2.2.2.2.2.2
  have hp := p.length_eq
  obtain ⟨j, j1, j2, j3⟩ := plo_get p hs hk
  have := h.placeOf hJ.1.2.2.1 hml hJ.2.2.2.2.2.2.1 ho (k := k) (by omega)
  rw [j1] at this
  exact ⟨j, this, j2, j3⟩
theorem R_lacksOut (h : Ms A M) (hJ : JM (mu A M) v ms n) {i : Int32} (hi : decide (0 ≤ i ∧ i < nI ms.length) = false) : f_X9_lacks A M i = some (1, hsI A 452 M 0 1) := by
  have := R_lacks h hJ i
  rw [hi] at this
  exact this
theorem R_lacksIn (h : Ms A M) (hJ : JM (mu A M) v ms n) {k : Nat} (hk : k < ms.length) : f_X9_lacks A M (nI k) = some (0, hsI A 452 M 0 0) := by
  have := R_lacks h hJ (nI k)
  rw [lk_in hk hJ.2.2.2.2.2.2.2] at this
  exact this
theorem R_toldBad (h : Ms A M) (hJ : JM (mu A M) v ms n) {i : Int32} (w : Int32) (hi : decide (0 ≤ i ∧ i < nI ms.length) = false) : f_X9_told A M i w = some (0, hsI A 452 M 0 1) := by
  unfold f_X9_told
  rw [if_pos h.1, R_lacksOut h hJ hi, Option.bind_some]
  rfl
theorem R_told (h : Ms A M) (hJ : JM (mu A M) v ms n) (p : ms.Perm (jC v)) (hs : srt (jC v)) (ho : okl ms) {k w : Nat} (hk : k < (jC v).length) (hw : w ≤ 12) : ∃ j, j < ms.length ∧ cg ms j = cg (jC v) k ∧ f_X9_told A M (nI k) (nI w) = some (mu A M (2500 + 140 * j + w), hsI A 452 M 0 0) := by
  have hml := hJ.2.2.2.2.2.2.2
  have hp := p.length_eq
  have h0 := h.t0 0
  have j0 : JM (mu (hsI A 452 M 0 0) M) v ms n := hJ
  obtain ⟨j, j1, j2, j3⟩ := j0.at h0 p hs ho hk
  refine ⟨j, j2, j3, ?_⟩
  unfold f_X9_told
  rw [if_pos h.1, R_lacksIn h hJ (by omega), Option.bind_some, if_pos (by rfl), if_pos h0.1]
  show ((f_X9_placeOf (hsI A 452 M 0 0) M (nI k)).bind fun v7 => ((f_X9_cookie (hsI A 452 M 0 0) v7).bind fun v9 => if (hsh (hsI A 452 M 0 0) (hgR (hsI A 452 M 0 0) 448 M 0)).1 = 11 then if wix (v9 + nI w) (hsh (hsI A 452 M 0 0) (hgR (hsI A 452 M 0 0) 448 M 0)).2 then some ((hgL (hsI A 452 M 0 0) 1035 (hgR (hsI A 452 M 0 0) 448 M 0) (v9 + nI w).toNatClampNeg), (hsI A 452 M 0 0)) else none else none)) = _
  rw [j1, Option.bind_some, ck_, Option.bind_some, nI_add, if_pos h0.a11, if_pos (h0.wx (by omega)), h0.vl (by omega)]
  rfl
theorem R_signBad (h : Ms A M) (x : Tx A M t) (hJ : JM (mu A M) v ms n) {i k : Int32} (s f : Int32) (hi : decide (0 ≤ i ∧ i < nI ms.length) = false ∨ ¬ 0 ≤ k) : ∃ B, f_X9_signOf A M i k s f = some (0, B) ∧ RP A B M 1 t v ms n := by
  cases hd : decide (0 ≤ i ∧ i < nI ms.length) with
  | false =>
    refine ⟨hsI (hsI A 452 M 0 1) 452 M 0 1, ?_, RP.tt x hJ 1 1⟩
    unfold f_X9_signOf k_X9_signOf_12
    rw [if_pos h.1, R_lacksOut h hJ hd, Option.bind_some]
    show (if (1 : Int32) = 0 then _ else if (hsh (hsI A 452 M 0 1) M).1 = 8 then ((f_X9_fails (hsI A 452 M 0 1) M (1 : Int32)).bind fun p3 => some (p3.1, p3.2)) else none) = _
    rw [if_neg (by decide), if_pos (h.t0 1).1, fails_ (h.t0 1), Option.bind_some]
  | true =>
    rcases hi with z | z
    · rw [hd] at z; cases z
    · refine ⟨hsI (hsI A 452 M 0 0) 452 M 0 1, ?_, RP.tt x hJ 0 1⟩
      have hl := R_lacks h hJ i
      rw [hd] at hl
      have hl : f_X9_lacks A M i = some (0, hsI A 452 M 0 0) := hl
      unfold f_X9_signOf k_X9_signOf_12
      rw [if_pos h.1, hl, Option.bind_some, if_pos (by rfl), if_neg z]
      show (if (hsh (hsI A 452 M 0 0) M).1 = 8 then ((f_X9_fails (hsI A 452 M 0 0) M (1 : Int32)).bind fun p3 => some (p3.1, p3.2)) else none) = _
      rw [if_pos (h.t0 0).1, fails_ (h.t0 0), Option.bind_some]
theorem R_sign (h : Ms A M) (hJ : JM (mu A M) v ms n) (p : ms.Perm (jC v)) (hs : srt (jC v)) (ho : okl ms) {k j s f : Nat} (hk : k < (jC v).length) (hj : j < 2 ^ 31) (str : CkV → List Int32) (hstr : ∀ a c, CkM (mu A M) a c → mu A M (a + s) = lN (str c).length ∧ Sg (mu A M) (a + f) (str c) ∧ f + (str c).length ≤ 140) (hs3 : s ≤ 3) : f_X9_signOf A M (nI k) (nI j) (nI s) (nI f) = some (g (str (cg (jC v) k)) j, hsI A 452 M 0 0) := by
  have hml := hJ.2.2.2.2.2.2.2
  have hp := p.length_eq
  have h0 := h.t0 0
  have j0 : JM (mu (hsI A 452 M 0 0) M) v ms n := hJ
  obtain ⟨q, j1, j2, j3⟩ := j0.at h0 p hs ho hk
  obtain ⟨c1, c2, c3⟩ := hstr _ _ (hJ.2.2.2.2.2.2.1 q j2)
  rw [j3] at c1 c2 c3
  unfold f_X9_signOf
  rw [if_pos h.1, R_lacksIn h hJ (by omega), Option.bind_some, if_pos (by rfl), if_pos (nI_pos' hj), if_pos h0.1]
  show ((f_X9_placeOf (hsI A 452 M 0 0) M (nI k)).bind fun v11 => ((f_X9_cookie (hsI A 452 M 0 0) v11).bind fun v13 => if (hsh (hsI A 452 M 0 0) (hgR (hsI A 452 M 0 0) 448 M 0)).1 = 11 then if wix (v13 + nI s) (hsh (hsI A 452 M 0 0) (hgR (hsI A 452 M 0 0) 448 M 0)).2 then (if (hgL (hsI A 452 M 0 0) 1035 (hgR (hsI A 452 M 0 0) 448 M 0) (v13 + nI s).toNatClampNeg) ≤ (nI j).toInt64 then some ((-1 : Int32), (hsI A 452 M 0 0)) else if wix ((v13 + nI f) + nI j) (hsh (hsI A 452 M 0 0) (hgR (hsI A 452 M 0 0) 448 M 0)).2 then some ((hgL (hsI A 452 M 0 0) 1035 (hgR (hsI A 452 M 0 0) 448 M 0) ((v13 + nI f) + nI j).toNatClampNeg).toInt32, (hsI A 452 M 0 0)) else none) else none else none)) = _
  rw [j1, Option.bind_some, ck_, Option.bind_some, nI_add, nI_add, nI_add, if_pos h0.a11, if_pos (h0.wx (by omega)), h0.vl (by omega), show mu (hsI A 452 M 0 0) M (2500 + 140 * q + s) = _ from c1, nI_l hj]
  by_cases z : j < (str (cg (jC v) k)).length
  · rw [if_neg (fun y => by have := (lN_le (by omega) (by omega)).mp y; omega), if_pos (h0.wx (by omega)), h0.vl (by omega), show mu (hsI A 452 M 0 0) M (2500 + 140 * q + f + j) = _ from c2 j z, Int32.toInt32_toInt64]
  · rw [if_pos ((lN_le (by omega) hj).mpr (by omega)), g_ge (by omega)]
theorem R_wouldClosed (h : Ms A M) (hJ : JM (mu A M) v ms n) (hq : (jR v).1 = false) (i a b : Int32) : f_X9_wouldSend A M i a b = some (0, hsI A 452 M 0 1) := by
  unfold f_X9_wouldSend k_X9_wouldSend_39
  rw [if_pos h.1, if_pos h.a11, if_pos (show wix (100 : Int32) _ from h.wx (i := 100) (by omega)), if_pos (show hgL A 1035 (hgR A 448 M 0) (100 : Int32).toNatClampNeg = 0 from (h.req hJ).trans (by rw [hq]; rfl)), if_pos h.1, if_pos (h.t0 1).1, thg, if_neg (by decide)]
theorem R_wouldBad (h : Ms A M) (hJ : JM (mu A M) v ms n) (hq : (jR v).1 = true) {i : Int32} (a b : Int32) (hi : decide (0 ≤ i ∧ i < nI ms.length) = false) : f_X9_wouldSend A M i a b = some (0, hsI A 452 M 0 2) := by
  have hml := hJ.2.2.2.2.2.2.2
  unfold f_X9_wouldSend
  rw [if_pos h.1, if_pos h.a11, if_pos (show wix (100 : Int32) _ from h.wx (i := 100) (by omega)), if_neg (show ¬ hgL A 1035 (hgR A 448 M 0) (100 : Int32).toNatClampNeg = 0 from fun z => by rw [h.req hJ, hq] at z; exact absurd z (by decide)), if_pos (show wix (5 : Int32) _ from h.wx (i := 5) (by omega)), show hgL A 1035 (hgR A 448 M 0) (5 : Int32).toNatClampNeg = lN ms.length from (h.vl (i := 5) (by omega)).trans hJ.1.2.2.1, in_, lkD i hml, hi, Option.bind_some, if_pos (by rfl)]
  unfold k_X9_wouldSend_39
  rw [if_pos h.1, if_pos (h.t0 2).1, thg, if_neg (by decide)]
theorem R_would (h : Ms A M) (hJ : JM (mu A M) v ms n) (p : ms.Perm (jC v)) (hs : srt (jC v)) (ho : okl ms) (hq : (jR v).1 = true) {k : Nat} (hk : k < (jC v).length) (nav sc : Bool) : f_X9_wouldSend A M (nI k) (bI nav) (bI sc) = some (bI (gos v (cg (jC v) k) (crs v) nav sc), hsI A 452 M 0 0) := by
  have hml := hJ.2.2.2.2.2.2.2
  have hp := p.length_eq
  have h0 := h.t0 0
  have j0 : JM (mu (hsI A 452 M 0 0) M) v ms n := hJ
  obtain ⟨q, j1, j2, j3⟩ := j0.at h0 p hs ho hk
  unfold f_X9_wouldSend
  rw [if_pos h.1, if_pos h.a11, if_pos (show wix (100 : Int32) _ from h.wx (i := 100) (by omega)), if_neg (show ¬ hgL A 1035 (hgR A 448 M 0) (100 : Int32).toNatClampNeg = 0 from fun z => by rw [h.req hJ, hq] at z; exact absurd z (by decide)), if_pos (show wix (5 : Int32) _ from h.wx (i := 5) (by omega)), show hgL A 1035 (hgR A 448 M 0) (5 : Int32).toNatClampNeg = lN ms.length from (h.vl (i := 5) (by omega)).trans hJ.1.2.2.1, in_, lkD _ hml, lk_in (by omega) hml, Option.bind_some, if_neg (by decide)]
  unfold k_X9_wouldSend_39
  rw [if_pos h.1, if_pos h0.1, thg, if_pos rfl, j1, Option.bind_some, ck_, Option.bind_some, j0.isSent h0 (j0.2.2.2.2.2.2.1 q j2) (by omega) (ho _ (cg_mem j2)), j3, Option.bind_some]
  cases gos v (cg (jC v) k) (crs v) nav sc
  · rw [if_pos (by rfl)]; rfl
  · rw [if_neg (by decide)]; rfl
theorem R_removeBad (h : Ms A M) (hJ : JM (mu A M) v ms n) {i : Int32} (hi : decide (0 ≤ i ∧ i < nI ms.length) = false) : f_X9_remove A M i = some (0, hsI A 452 M 0 1) := by
  unfold f_X9_remove
  rw [if_pos h.1, R_lacksOut h hJ hi, Option.bind_some]
  rfl
theorem R_remove (h : Ms A M) (x : Tx A M t) (hJ : JM (mu A M) v ms n) (p : ms.Perm (jC v)) (hs : srt (jC v)) (ho : okl ms) {k : Nat} (hk : k < (jC v).length) : ∃ B ms', f_X9_remove A M (nI k) = some (nI ((jC v).length - 1), B) ∧ RP A B M 0 t v ms' n ∧ ms'.Perm ((jC v).eraseIdx k) := by
  have hml := hJ.2.2.2.2.2.2.2
  have hp := p.length_eq
  have h0 := h.t0 0
  have r0 := RP.th x hJ 0
  obtain ⟨q, j1, j2, j3⟩ := r0.2.2.2.at h0 p hs ho hk
  obtain ⟨B, b1, b2, b3, b4⟩ := r0.2.2.2.goes h0 j2
  have hB : Ms B M := h0.eq b2 (show ¬ M = M + 1 by omega)
  refine ⟨B, gon ms q, ?_, r0.tr (RP.go r0.2.2.1 r0.2.1 b2 (fun k hk => b4 k (by omega)) b3), (gon_perm j2).trans (perm_erase p j2 hk j3)⟩
  unfold f_X9_remove
  rw [if_pos h.1, R_lacksIn h hJ (by omega), Option.bind_some, if_pos (by rfl), if_pos h0.1]
  show ((f_X9_placeOf (hsI A 452 M 0 0) M (nI k)).bind fun v7 => ((f_X9_goes (hsI A 452 M 0 0) M v7).bind fun A9 => if (hsh A9 M).1 = 8 then if (hsh A9 (hgR A9 448 M 0)).1 = 11 then if wix (5 : Int32) (hsh A9 (hgR A9 448 M 0)).2 then some ((hgL A9 1035 (hgR A9 448 M 0) (5 : Int32).toNatClampNeg).toInt32, A9) else none else none else none)) = _
  rw [j1, Option.bind_some, b1, Option.bind_some, show (5 : Int32) = nI 5 from rfl, hB.gd (by omega), hB.vl (by omega), show mu B M 5 = _ from b3.1.2.2.1, gon_len, lN_i, hp]
theorem R_clearClosed (h : Ms A M) (hJ : JM (mu A M) v ms n) (hq : (jR v).1 = false) : f_X9_clearSite A M = some (0, hsI (hsI A 452 M 0 0) 452 M 0 1) := by
  have h0 := h.t0 0
  unfold f_X9_clearSite
  rw [if_pos h.1, if_pos h0.a11, if_pos (show wix (100 : Int32) _ from h0.wx (i := 100) (by omega)), if_pos (show hgL (hsI A 452 M 0 0) 1035 (hgR (hsI A 452 M 0 0) 448 M 0) (100 : Int32).toNatClampNeg = 0 from (h0.req (v := v) (ms := ms) (n := n) hJ).trans (by rw [hq]; rfl)), fails_ h0, Option.bind_some]
theorem flt_perm {p : CkV → Bool} {ms cs : List CkV} (h : ms.Perm cs) : (flt p ms).Perm (flt p cs) := h.filter _
theorem goL_tie {p : CkV → Bool} {ms cs : List CkV} (h : ms.Perm cs) : (goL p ms.length ms).Perm (flt p cs) ∧ ms.length - (goL p ms.length ms).length = cs.length - (flt p cs).length := by
  have h1 := (goL_perm (p := p) ms.length ms (Nat.le_refl _) (fun j h1 h2 => by omega)).trans (flt_perm h)
  exact ⟨h1, by rw [h1.length_eq, h.length_eq]⟩
theorem R_clearSite (h : Ms A M) (x : Tx A M t) (hJ : JM (mu A M) v ms n) (p : ms.Perm (jC v)) (hq : (jR v).1 = true) : ∃ B ms', f_X9_clearSite A M = some (nI ((jC v).length - (flt (fun c => sameSt (jU v) (cD c) (jR v).2.2.1) (jC v)).length), B) ∧ RP A B M 0 t v ms' n ∧ ms'.Perm (flt (fun c => sameSt (jU v) (cD c) (jR v).2.2.1) (jC v)) := by
  have hml := hJ.2.2.2.2.2.2.2
  have h0 := h.t0 0
  have r0 := RP.th x hJ 0
  obtain ⟨t1, t2⟩ := goL_tie (p := fun c => sameSt (jU v) (cD c) (jR v).2.2.1) p
  obtain ⟨B, b1, b2, b3, b4⟩ := JM.clearL ms.length FU 0 (hsI A 452 M 0 0) ms (by unfold FU; omega) (Nat.le_refl _) h0 r0.2.2.2
  rw [Nat.zero_add, t2] at b1
  refine ⟨B, _, ?_, r0.tr (RP.go r0.2.2.1 r0.2.1 b2 (fun k hk => b4 k (by omega)) b3), t1⟩
  unfold f_X9_clearSite
  rw [if_pos h.1, if_pos h0.a11, if_pos (show wix (100 : Int32) _ from h0.wx (i := 100) (by omega)), if_neg (show ¬ hgL (hsI A 452 M 0 0) 1035 (hgR (hsI A 452 M 0 0) 448 M 0) (100 : Int32).toNatClampNeg = 0 from fun z => by rw [h0.req (v := v) (ms := ms) (n := n) hJ, hq] at z; exact absurd z (by decide)), if_pos (show wix (5 : Int32) _ from h0.wx (i := 5) (by omega)), show hgL (hsI A 452 M 0 0) 1035 (hgR (hsI A 452 M 0 0) 448 M 0) (5 : Int32).toNatClampNeg = lN ms.length from (h0.vl (i := 5) (by omega)).trans hJ.1.2.2.1, lN_i, idx_l]
  exact b1
theorem flt_congr {p q : CkV → Bool} {cs : List CkV} (h : ∀ c ∈ cs, p c = q c) : flt p cs = flt q cs := List.filter_congr (fun c hc => by rw [h c hc])
theorem R_endSession (h : Ms A M) (x : Tx A M t) (hJ : JM (mu A M) v ms n) (p : ms.Perm (jC v)) : ∃ B ms', f_X9_endSession A M = some (nI ((jC v).length - (flt (fun c => decide (cE c = -1)) (jC v)).length), B) ∧ RP A B M 0 t v ms' n ∧ ms'.Perm (flt (fun c => decide (cE c = -1)) (jC v)) := by
  have h0 := h.t0 0
  have r0 := RP.th x hJ 0
  obtain ⟨B, b1, b2, b3, b4⟩ := JM.goBetween (lo := -1) (hi := -1) h0 r0.2.2.2
  have e : (fun c : CkV => decide ((-1 : Int64) ≤ cE c ∧ cE c ≤ -1)) = (fun c => decide (cE c = -1)) := by
    funext c
    rw [decide_eq_decide]
    constructor
    · rintro ⟨a, b⟩; exact Int64.le_antisymm b a
    · intro z; rw [z]; exact ⟨Int64.le_rfl, Int64.le_rfl⟩
  rw [e] at b1 b3
  obtain ⟨t1, t2⟩ := goL_tie (p := fun c => decide (cE c = -1)) p
  rw [t2] at b1
  refine ⟨B, _, ?_, r0.tr (RP.go r0.2.2.1 r0.2.1 b2 (fun k hk => b4 k (by omega)) b3), t1⟩
  unfold f_X9_endSession
  rw [if_pos h.1, b1, Option.bind_some]
theorem R_advBad (h : Ms A M) {s : Int32} (hs : ¬ 0 ≤ s) : f_X9_advance A M s = some (0, hsI (hsI A 452 M 0 0) 452 M 0 1) := by
  unfold f_X9_advance
  rw [if_pos h.1, if_neg hs, fails_ (h.t0 0), Option.bind_some]
theorem JM.setT (hJ : JM (mu A M) v ms n) (y : Int64) : JM (mu (hsL A 1035 (M + 1) 0 y) M) (jsT v y) ms n := by
  obtain ⟨⟨⟨a0, a1, a2, a3⟩, a4, a5, a7, a8⟩, b, c, d1, d2, ⟨f1, f2⟩, hc0, hl0⟩ := hJ
  have lo : ∀ k, k ≠ 0 → mu (hsL A 1035 (M + 1) 0 y) M k = mu A M k := fun k q => by rw [mu_set, if_neg q]
  exact ⟨⟨⟨by rw [mu_set, if_pos rfl]; rfl, (lo 1 (by omega)).trans a1, (lo 2 (by omega)).trans a2, (lo 3 (by omega)).trans a3⟩, (lo 4 (by omega)).trans a4, (lo 5 (by omega)).trans a5, (lo 7 (by omega)).trans a7, (lo 8 (by omega)).trans a8⟩, fun j hj => (lo _ (by omega)).trans (b j hj), c.congr (lo 6 (by omega)) (fun k q1 q2 => lo k (by omega)), d1.congr (fun k q1 q2 => lo k (by omega)), d2.congr (fun k q1 q2 => lo k (by omega)), ⟨f1.congr (fun k q1 q2 => lo k (by omega)), f2⟩, fun j hj => (hc0 j hj).congr (fun k q1 q2 => lo k (by omega)), hl0⟩
theorem R_advance (h : Ms A M) (x : Tx A M t) (hJ : JM (mu A M) v ms n) (p : ms.Perm (jC v)) (hE : ∀ c ∈ jC v, okE c) {s : Nat} (hs : s < 2 ^ 31) : ∃ B ms', f_X9_advance A M (nI s) = some (nI ((jC v).length - (flt (goB (jT v + (nI s).toInt64)) (jC v)).length), B) ∧ RP A B M 0 t (jsK (jsT v (jT v + (nI s).toInt64)) 3 ((jC v).length - (flt (goB (jT v + (nI s).toInt64)) (jC v)).length)) ms' n ∧ ms'.Perm (flt (goB (jT v + (nI s).toInt64)) (jC v)) := by
  have hml := hJ.2.2.2.2.2.2.2
  have hp := p.length_eq
  have hne : ¬ oP M M := show ¬ M = M + 1 by omega
  have h0 := h.t0 0
  have r0 := RP.th x hJ 0
  have c0 : (0 : Int32).toNatClampNeg = 0 := by decide
  have e1 : Eqx (oP M) (hsI A 452 M 0 0) (hsL (hsI A 452 M 0 0) 1035 (M + 1) (0 : Int32).toNatClampNeg (jT v + (nI s).toInt64)) := Eqx.sL rfl
  have h1 : Ms (hsL (hsI A 452 M 0 0) 1035 (M + 1) (0 : Int32).toNatClampNeg (jT v + (nI s).toInt64)) M := h0.set
  have j1 : JM (mu (hsL (hsI A 452 M 0 0) 1035 (M + 1) (0 : Int32).toNatClampNeg (jT v + (nI s).toInt64)) M) (jsT v (jT v + (nI s).toInt64)) ms n := by rw [c0]; exact r0.2.2.2.setT (jT v + (nI s).toInt64)
  have r1 : RP (hsI A 452 M 0 0) (hsL (hsI A 452 M 0 0) 1035 (M + 1) (0 : Int32).toNatClampNeg (jT v + (nI s).toInt64)) M 0 t (jsT v (jT v + (nI s).toInt64)) ms n := RP.go r0.2.2.1 r0.2.1 e1 (fun k hk => by rw [mu_set, if_neg (by rw [c0]; omega)]) j1
  have v1 : hgL (hsI A 452 M 0 0) 1035 (hgR (hsI A 452 M 0 0) 448 M 0) (0 : Int32).toNatClampNeg = jT v := (h0.vl (i := 0) (by omega)).trans hJ.1.1.1
  unfold f_X9_advance
  rw [if_pos h.1, if_pos (nI_pos' hs), if_pos h0.a11, if_pos (show wix (0 : Int32) _ from h0.wx (i := 0) (by omega)), v1, h0.2.1]
  generalize hsL (hsI A 452 M 0 0) 1035 (M + 1) (0 : Int32).toNatClampNeg (jT v + (nI s).toInt64) = A1 at *
  obtain ⟨B, b1, b2, b3, b4⟩ := JM.goBetween (lo := 0) (hi := jT v + (nI s).toInt64) h1 j1
  have e : ∀ c ∈ jC v, (fun c : CkV => decide ((0 : Int64) ≤ cE c ∧ cE c ≤ jT v + (nI s).toInt64)) c = goB (jT v + (nI s).toInt64) c := by
    intro c hc
    show decide _ = decide (cE c ≠ -1 ∧ ¬ jT v + (nI s).toInt64 < cE c)
    rw [decide_eq_decide]
    have := okE_m1 (hE c hc)
    constructor
    · rintro ⟨a, b⟩
      exact ⟨fun z => absurd (this.mp z) (Int64.not_lt.mpr a), Int64.not_lt.mpr b⟩
    · rintro ⟨a, b⟩
      exact ⟨Int64.not_lt.mp (fun z => a (this.mpr z)), Int64.not_lt.mp b⟩
  obtain ⟨t1, t2⟩ := goL_tie (p := fun c => decide ((0 : Int64) ≤ cE c ∧ cE c ≤ jT v + (nI s).toInt64)) p
  rw [flt_congr e] at t1 t2
  rw [t2] at b1
  have hB : Ms B M := h1.eq b2 hne
  have hlt : (jC v).length - (flt (goB (jT v + (nI s).toInt64)) (jC v)).length < 2 ^ 31 := by omega
  have r2 : RP A1 B M 0 t (jsT v (jT v + (nI s).toInt64)) _ n := RP.go r1.2.2.1 r1.2.1 b2 (fun k hk => b4 k (by omega)) b3
  have r3 := RP.go r2.2.2.1 r2.2.1 (B := hsL B 1035 (M + 1) (10 + 3) (lN (jK v 3 + ((jC v).length - (flt (goB (jT v + (nI s).toInt64)) (jC v)).length)))) (Eqx.sL rfl) (fun k hk => by rw [mu_set, if_neg (by omega)]) (b3.cnt hB (e := 3) (by omega) ((jC v).length - (flt (goB (jT v + (nI s).toInt64)) (jC v)).length))
  refine ⟨_, _, ?_, ((r0.tr r1).tr r2).tr r3, t1⟩
  rw [if_pos h1.a11, if_pos (show wix (0 : Int32) _ from h1.wx (i := 0) (by omega)), show hgL A1 1035 (hgR A1 448 M 0) (0 : Int32).toNatClampNeg = jT v + (nI s).toInt64 from (h1.vl (i := 0) (by omega)).trans j1.1.1.1, b1, Option.bind_some, if_pos hB.1, if_pos hB.a11, if_pos (show wix (13 : Int32) _ from hB.wx (i := 13) (by omega)), show hgL B 1035 (hgR B 448 M 0) (13 : Int32).toNatClampNeg = lN (jK v 3) from (hB.vl (i := 13) (by omega)).trans (b3.2.1 3 (by omega)), nI_l hlt, lN_add, hB.2.1]
  rfl
theorem R_time (h : Ms A M) (hJ : JM (mu A M) v ms n) : f_X9_time A M = some (jT v, hsI A 452 M 0 0) := by
  have h0 := h.t0 0
  unfold f_X9_time
  rw [if_pos h.1, if_pos h0.a11, if_pos (show wix (0 : Int32) _ from h0.wx (i := 0) (by omega)), show hgL (hsI A 452 M 0 0) 1035 (hgR (hsI A 452 M 0 0) 448 M 0) (0 : Int32).toNatClampNeg = jT v from (h0.vl (i := 0) (by omega)).trans hJ.1.1.1]
theorem R_nextExpiry (h : Ms A M) (hJ : JM (mu A M) v ms n) (p : ms.Perm (jC v)) (hE : ∀ c ∈ ms, okE c) : f_X9_nextExpiry A M = some ((jC v).foldl eaS (-1), hsI A 452 M 0 0) := by
  have hml := hJ.2.2.2.2.2.2.2
  have h0 := h.t0 0
  have j0 : JM (mu (hsI A 452 M 0 0) M) v ms n := hJ
  unfold f_X9_nextExpiry
  rw [if_pos h.1, show k_X9_nextExpiry_11 M FU (hsI A 452 M 0 0) (-1) (0 : Int32) = _ from j0.nextL h0 ms.length 0 FU (-1) (by omega) (by unfold FU; omega), List.drop_zero, ne_fold ms (-1) hE (Or.inl rfl), ea_perm p]
theorem R_firstBad (h : Ms A M) (x : Tx A M t) (hJ : JM (mu A M) v ms n) (hd : isDom t = false) : f_X9_firstFrom A M = some (0, hsI (hsI A 452 M 0 0) 452 M 0 1) := by
  have h0 := h.t0 0
  have x0 := (RP.th x hJ 0).2.2.1
  have hx2 := x.2.1
  unfold f_X9_firstFrom
  rw [if_pos h.1, x0.1, show (8400 : Int32) = nI 8400 from rfl, h0.isDomain x0.2.2.1 (by omega), hd, Option.bind_some, if_pos (by rfl), fails_ h0, Option.bind_some]
theorem srt.pre {d : List Int32} : ∀ {cs : List CkV}, srt cs → ∀ i, oI (fnb d cs i) = if cs.countP (fun c => decide (dcmp (cD c) d < 0)) < cs.length then nI (i + cs.countP (fun c => decide (dcmp (cD c) d < 0))) else -1 := by
  intro cs
  have dl : ∀ a b : List Int32, dcmp a b < 0 ↔ dcmp a b = -1 := fun a b => by
    rcases dcmp_GC.1 a b with h | h | h
    · rw [h]; exact ⟨fun _ => rfl, fun _ => by decide⟩
    · rw [h]; exact ⟨fun q => absurd q (by decide), fun q => absurd q (by decide)⟩
    · rw [h]; exact ⟨fun q => absurd q (by decide), fun q => absurd q (by decide)⟩
  induction cs with
  | nil =>
    intro _ i
    show (-1 : Int32) = if (0 : Nat) < 0 then nI (i + 0) else -1
    rw [if_neg (Nat.lt_irrefl 0)]
  | cons c cs ih =>
    intro h i
    obtain ⟨h1, h2⟩ := List.pairwise_cons.mp h
    show oI (if dcmp (cD c) d < 0 then fnb d cs (i + 1) else some i) = _
    by_cases q : dcmp (cD c) d < 0
    · rw [if_pos q, ih h2 (i + 1), List.countP_cons_of_pos (by rw [decide_eq_true_eq]; exact q), List.length_cons]
      by_cases z : cs.countP (fun c => decide (dcmp (cD c) d < 0)) < cs.length
      · rw [if_pos z, if_pos (by omega), show i + 1 + cs.countP (fun c => decide (dcmp (cD c) d < 0)) = i + (cs.countP (fun c => decide (dcmp (cD c) d < 0)) + 1) by omega]
      · rw [if_neg z, if_neg (by omega)]
    · rw [if_neg q, List.countP_cons_of_neg (by rw [decide_eq_true_eq]; exact q)]
      have z : cs.countP (fun c => decide (dcmp (cD c) d < 0)) = 0 := by
        rw [List.countP_eq_zero]
        intro e he
        rw [decide_eq_true_eq, dl]
        intro y
        rw [dl] at q
        -- c is not behind e by its domain
        have hce : dcmp (cD c) (cD e) ≠ 1 := by
          have := h1 e he
          unfold ccmp at this
          intro w
          rw [w, if_pos (by decide)] at this
          exact absurd this (by decide)
        rcases dcmp_GC.1 (cD c) (cD e) with w | w | w
        · exact q (dcmp_GC.2.2.1 _ _ _ w y)
        · rw [← dcmp_GC.2.2.2 _ _ d w] at y; exact q y
        · exact hce w
      rw [z, if_pos (by rw [List.length_cons]; omega)]
      rfl
theorem R_first (h : Ms A M) (x : Tx A M t) (hJ : JM (mu A M) v ms n) (p : ms.Perm (jC v)) (hs : srt (jC v)) (ho : okl ms) (hd : isDom t = true) : f_X9_firstFrom A M = some (oI (fnb t (jC v) 0), hsI A 452 M 0 0) := by
  have hml := hJ.2.2.2.2.2.2.2
  have h0 := h.t0 0
  have r0 := RP.th x hJ 0
  have x0 := r0.2.2.1
  have hx2 := x.2.1
  unfold f_X9_firstFrom
  rw [if_pos h.1, x0.1, show (8400 : Int32) = nI 8400 from rfl, h0.isDomain x0.2.2.1 (by omega), hd, Option.bind_some, if_neg (by decide), show k_X9_firstFrom_29 M FU (hsI A 452 M 0 0) (0 : Int32) (0 : Int32) = _ from JM.firstL h0 r0.2.2.2 x0 ho hd ms.length 0 FU 0 (by omega) (by unfold FU; omega) (by omega), List.drop_zero, hs.pre 0, Nat.zero_add, p.countP_eq, p.length_eq, Nat.zero_add]
theorem R_limBad (h : Ms A M) {l : Int32} (m : Int32) (hl : decide (0 ≤ l ∧ l < nI 2) = false) : f_X9_setLimit A M l m = some (0, hsI (hsI A 452 M 0 0) 452 M 0 1) := by
  unfold f_X9_setLimit
  rw [if_pos h.1, in_, show decide ((0 : Int64) ≤ l.toInt64 ∧ l.toInt64 ≤ (1 : Int64)) = decide (0 ≤ l ∧ l < nI 2) from lkD l (l := 2) (by omega), hl, Option.bind_some, if_pos (by rfl), fails_ (h.t0 0), Option.bind_some]
theorem R_limBad2 (h : Ms A M) {l m : Int32} (hl : decide (0 ≤ l ∧ l < nI 2) = true) (hm : (decide (nI 1 ≤ m) && decide (m ≤ nI 40)) = false) : f_X9_setLimit A M l m = some (0, hsI (hsI A 452 M 0 0) 452 M 0 2) := by
  unfold f_X9_setLimit
  rw [if_pos h.1, in_, show decide ((0 : Int64) ≤ l.toInt64 ∧ l.toInt64 ≤ (1 : Int64)) = decide (0 ≤ l ∧ l < nI 2) from lkD l (l := 2) (by omega), hl, Option.bind_some, if_neg (by decide), show f_X9_in (hsI A 452 M 0 0) m.toInt64 (1 : Int64) (40 : Int64) = _ from inc_ m 1 40 (by omega) (by omega), hm, Option.bind_some, if_pos (by rfl), fails_ (h.t0 0), Option.bind_some]
def jsL (v : JV) (i m : Nat) : JV := (v.1, v.2.1, v.2.2.1, (fun j => if j = i then m else jL v j), v.2.2.2.2)
def jsP (v : JV) (m : Nat) : JV := (v.1, v.2.1, v.2.2.1, v.2.2.2.1, v.2.2.2.2.1, m, v.2.2.2.2.2.2)
theorem R_lim (h : Ms A M) (x : Tx A M t) (hJ : JM (mu A M) v ms n) {l m : Nat} (hl : l < 2) (hm : 1 ≤ m ∧ m ≤ 40) : ∃ B, f_X9_setLimit A M (nI l) (nI m) = some (nI (jL v l), B) ∧ RP A B M 0 t (jsL v l m) ms n := by
  have h0 := h.t0 0
  have r0 := RP.th x hJ 0
  have lv : mu (hsI A 452 M 0 0) M (2 + l) = lN (jL v l) := by
    match l, hl with
    | 0, _ => exact hJ.1.1.2.2.1
    | 1, _ => exact hJ.1.1.2.2.2
  unfold f_X9_setLimit
  rw [if_pos h.1, in_, show decide ((0 : Int64) ≤ (nI l).toInt64 ∧ (nI l).toInt64 ≤ (1 : Int64)) = decide (0 ≤ nI l ∧ nI l < nI 2) from lkD (nI l) (l := 2) (by omega), lk_in hl (by omega), Option.bind_some, if_neg (by decide), show f_X9_in (hsI A 452 M 0 0) (nI m).toInt64 (1 : Int64) (40 : Int64) = _ from inc_ (nI m) 1 40 (by omega) (by omega), show (decide (nI 1 ≤ nI m) && decide (nI m ≤ nI 40)) = true from (by rw [Bool.and_eq_true, decide_eq_true_eq, decide_eq_true_eq]; exact ⟨nI_le hm.1 (by omega), nI_le hm.2 (by omega)⟩), Option.bind_some, if_neg (by decide), if_pos h0.a11, show (2 : Int32) + nI l = nI (2 + l) from nI_add 2 l, if_pos (h0.wx (by omega)), h0.vl (by omega), lv, lN_i, nI_clamp (by omega), h0.2.1, nI_l (by omega)]
  have lo : ∀ k, k ≠ 2 + l → mu (hsL (hsI A 452 M 0 0) 1035 (M + 1) (2 + l) (lN m)) M k = mu A M k := fun k q => by rw [mu_set, if_neg q]; rfl
  have li : mu (hsL (hsI A 452 M 0 0) 1035 (M + 1) (2 + l) (lN m)) M (2 + l) = lN m := by rw [mu_set, if_pos rfl]
  refine ⟨_, rfl, r0.tr (RP.go r0.2.2.1 r0.2.1 (Eqx.sL rfl) (fun k hk => by rw [mu_set, if_neg (by omega)]) ?_)⟩
  obtain ⟨⟨⟨a0, a1, a2, a3⟩, a4, a5, a7, a8⟩, b, c, d1, d2, ⟨f1, f2⟩, hc0, hl0⟩ := hJ
  refine ⟨⟨⟨(lo 0 (by omega)).trans a0, (lo 1 (by omega)).trans a1, ?_, ?_⟩, (lo 4 (by omega)).trans a4, (lo 5 (by omega)).trans a5, (lo 7 (by omega)).trans a7, (lo 8 (by omega)).trans a8⟩, fun j hj => (lo _ (by omega)).trans (b j hj), c.congr (lo 6 (by omega)) (fun k q1 q2 => lo k (by omega)), d1.congr (fun k q1 q2 => lo k (by omega)), d2.congr (fun k q1 q2 => lo k (by omega)), ⟨f1.congr (fun k q1 q2 => lo k (by omega)), f2⟩, fun j hj => (hc0 j hj).congr (fun k q1 q2 => lo k (by omega)), hl0⟩
  · show _ = lN (if 0 = l then m else jL v 0)
    by_cases z : 0 = l
    · rw [if_pos z]; subst z; exact li
    · rw [if_neg z]; exact (lo 2 (by omega)).trans a2
  · show _ = lN (if 1 = l then m else jL v 1)
    by_cases z : 1 = l
    · rw [if_pos z]; subst z; exact li
    · rw [if_neg z]; exact (lo 3 (by omega)).trans a3
end
