/-! the jar of the class: what changes the list -/
def jjP (J : Nat) : Nat → Prop := fun q => q = J ∨ q = J + 1
theorem cg_of {cs ds : List CkV} {i j : Nat} (h : ds[i]? = cs[j]?) : cg ds i = cg cs j := by
  simp only [cg, List.getD_eq_getElem?_getD, h]
/-- the cookies' array is moved, the cookies stay -/
theorem JC.perm {A B : Hp} {J : Nat} {ad : Nat → Nat} {cs ds : List CkV} (s : Nat → Nat) (c2 : ∀ i, i < 41 → ∃ p, p < 41 ∧ ad i = J + 2 + 9 * p) (c3 : ∀ i j, i < 41 → j < 41 → ad i = ad j → i = j) (c6 : ∀ i, i < cs.length → Ck A (ad i) (cg cs i)) (c7 : ∀ i, i < 41 → ∃ v, Ck A (ad i) v) (e : Eqx (jjP J) A B)
    (h1 : ∀ j, j < 41 → hgR B 1037 (J + 1) j = ad (s j)) (hb : ∀ j, j < 41 → s j < 41) (hi : ∀ j k, j < 41 → k < 41 → s j = s k → j = k) (h2 : hgI B 129 J 0 = nI ds.length) (h3 : ds.length ≤ 41) (h4 : ∀ j, j < ds.length → s j < cs.length ∧ cg ds j = cg cs (s j)) : JC B J (fun j => ad (s j)) ds := by
  have pc : ∀ i, i < 41 → ∀ q, ckP (ad i) q → ¬ jjP J q := fun i hi' q hq z => by
    obtain ⟨p, hp, e9⟩ := c2 i hi'
    have := hq.1
    have := hq.2
    rcases z with z | z <;> omega
  refine ⟨h1, fun i hi' => c2 _ (hb i hi'), fun i j hi' hj' z => hi i j hi' hj' (c3 _ _ (hb i hi') (hb j hj') z), h2, h3, fun i hi' => ?_, fun i hi' => ?_⟩
  · obtain ⟨z1, z2⟩ := h4 i hi'
    rw [z2]
    exact (c6 _ z1).eq e (pc _ (hb i (by omega)))
  · obtain ⟨v, hv⟩ := c7 _ (hb i hi')
    exact ⟨v, hv.eq e (pc _ (hb i hi'))⟩
theorem JC.setOne {A B : Hp} {J : Nat} {ad : Nat → Nat} {cs : List CkV} (h : JC A J ad cs) {i : Nat} (hi : i < cs.length) {w : CkV} (e : Eqx (ckP (ad i)) A B) (hw : Ck B (ad i) w) : JC B J ad (cs.set i w) := by
  obtain ⟨c1, c2, c3, c4, c5, c6, c7⟩ := h
  obtain ⟨p, hp, ep⟩ := c2 i (by omega)
  have oth : ∀ j, j < 41 → j ≠ i → ∀ q, ckP (ad j) q → ¬ ckP (ad i) q := fun j hj hne q z1 z2 => by
    obtain ⟨p', hp', ep'⟩ := c2 j hj
    have := z1.1; have := z1.2; have := z2.1; have := z2.2
    have : p = p' := by omega
    subst this
    exact hne (c3 j i hj (by omega) (by omega))
  have nJ : ∀ q, q < J + 2 → ¬ ckP (ad i) q := fun q hq z => by have := z.1; omega
  refine ⟨fun j hj => by rw [e.R (nJ _ (by omega))]; exact c1 j hj, c2, c3, by rw [e.I (nJ _ (by omega)), List.length_set]; exact c4, by rw [List.length_set]; exact c5, fun j hj => ?_, fun j hj => ?_⟩
  · rw [List.length_set] at hj
    by_cases hq : j = i
    · subst hq
      have : cg (cs.set j w) j = w := by simp [cg, hi]
      rw [this]
      exact hw
    · have : cg (cs.set i w) j = cg cs j := cg_of (List.getElem?_set_ne (fun z => hq z.symm))
      rw [this]
      exact (c6 j hj).eq e (oth j (by omega) hq)
  · by_cases hq : j = i
    · rw [hq]; exact ⟨w, hw⟩
    · obtain ⟨v, hv⟩ := c7 j hj
      exact ⟨v, hv.eq e (oth j hj hq)⟩
theorem JS.arr {A : Hp} {J j x : Nat} (h : JS A J) : JS (hsR A 1037 (J + 1) j x) J := by
  have : ∀ f, f ≠ 1037 → hgR (hsR A 1037 (J + 1) j x) f J 0 = hgR A f J 0 := fun f _ => by rw [hgR_sR, if_neg (fun z => by omega)]
  obtain ⟨⟨a0, a1, a2, a3, a4, a5, a6, a7, a8, a9⟩, b⟩ := h
  exact ⟨⟨a0, by rw [this _ (by omega)]; exact a1, by rw [this _ (by omega)]; exact a2, by rw [this _ (by omega)]; exact a3, by rw [this _ (by omega)]; exact a4, by rw [this _ (by omega)]; exact a5, by rw [this _ (by omega)]; exact a6, by rw [this _ (by omega)]; exact a7, by rw [this _ (by omega)]; exact a8, by rw [this _ (by omega)]; exact a9⟩, b⟩
theorem JC.drop {A : Hp} {J : Nat} {ad : Nat → Nat} {cs : List CkV} (hS : JS A J) (h : JC A J ad cs) {i : Nat} (hi : i < cs.length) : ∃ B ad', f_X4_drop A J (nI i) = some B ∧ JS B J ∧ JC B J ad' (cs.eraseIdx i) ∧ (∀ v, JF A J v → JF B J v) ∧ Eqx (jjP J) A B := by
  obtain ⟨c1, c2, c3, c4, c5, c6, c7⟩ := h
  have a0 := hS.1.1
  have a1 := hS.1.2.1
  have b1 := hS.2.1
  let s : Nat → Nat := fun j => if j < i then j else if j < cs.length - 1 then j + 1 else if j = cs.length - 1 then i else j
  have L : ∀ d k fu A', k + d = cs.length - 1 → i ≤ k → d < fu → JS A' J → hgI A' 129 J 0 = nI cs.length → (∀ j, j < 41 → hgR A' 1037 (J + 1) j = if j < i then ad j else if j < k then ad (j + 1) else ad j) → Eqx (fun q => q = J + 1) A A' → ∃ B, k_X4_drop_22 J (ad i) fu A' (nI k) = some B ∧ JS B J ∧ hgI B 129 J 0 = nI (cs.length - 1) ∧ (∀ j, j < 41 → hgR B 1037 (J + 1) j = ad (s j)) ∧ (∀ v, JF A J v → JF B J v) ∧ Eqx (jjP J) A B := by
    intro d
    induction d with
    | zero =>
      intro k fu A' h1 h2 h3 zS z4 zA ze
      obtain ⟨fu, rfl⟩ : ∃ f, fu = f + 1 := ⟨fu - 1, by omega⟩
      have hk : k = cs.length - 1 := by omega
      have hsp : (hsh A' (ad i)).1 = 2 := by rw [ze.2.1]; exact (c6 i hi).1.1
      have e1 : nI cs.length - (1 : Int32) = nI (cs.length - 1) := pk_sub (b := 1) (by omega)
      refine ⟨hsI (hsR A' 1037 (J + 1) (cs.length - 1) (ad i)) 129 J 0 (nI (cs.length - 1)), ?_, zS.arr, by rw [hgI_sI, if_pos ⟨rfl, rfl, rfl⟩], fun j hj => ?_, fun v hv => ?_, ?_⟩
      · show k_X4_drop_22s J (ad i) _ _ _ = _
        unfold k_X4_drop_22s
        rw [if_pos zS.1.1, z4, e1, if_pos (nI_le (by omega) (by omega)), zS.1.2.1, zS.2.1, if_pos rfl, if_pos hsp, if_pos ((nI_wix (by omega)).mpr (show cs.length - 1 < 41 by omega)), nI_clamp (by omega), hgI_sR, z4, e1]
      · rw [hgR_sI, hgR_sR]
        show _ = ad (if j < i then j else if j < cs.length - 1 then j + 1 else if j = cs.length - 1 then i else j)
        by_cases q : j = cs.length - 1
        · rw [if_pos ⟨rfl, rfl, q⟩, if_neg (by omega), if_neg (by omega), if_pos q]
        · rw [if_neg (fun z => q z.2.2), zA j hj, hk]
          by_cases q1 : j < i
          · rw [if_pos q1, if_pos q1]
          · rw [if_neg q1, if_neg q1]
            by_cases q2 : j < cs.length - 1
            · rw [if_pos q2, if_pos q2]
            · rw [if_neg q2, if_neg q2, if_neg q]
      · have hv' : JF A' J v := hv.eq ze (by omega)
        refine ⟨?_, ?_, ?_⟩
        · rw [hgI_sI, if_neg (by omega), hgI_sR]; exact hv'.1
        · rw [hgI_sI, if_neg (by omega), hgI_sR]; exact hv'.2.1
        · exact hv'.2.2
      · exact ((ze.mo (fun q hq => Or.inr hq)).tr (Eqx.sR (Or.inr rfl))).tr (Eqx.sI (Or.inl rfl))
    | succ d ih =>
      intro k fu A' h1 h2 h3 zS z4 zA ze
      obtain ⟨fu, rfl⟩ : ∃ f, fu = f + 1 := ⟨fu - 1, by omega⟩
      have e1 : nI cs.length - (1 : Int32) = nI (cs.length - 1) := pk_sub (b := 1) (by omega)
      have zk1 : hgR A' 1037 (J + 1) (k + 1) = ad (k + 1) := by rw [zA _ (by omega), if_neg (by omega), if_neg (by omega)]
      have hnx : (hsh A' (ad (k + 1))).1 = 2 := by rw [ze.2.1]; exact (c6 (k + 1) (by omega)).1.1
      have st : k_X4_drop_22 J (ad i) (fu + 1) A' (nI k) = k_X4_drop_22s J (ad i) (k_X4_drop_22 J (ad i) fu) A' (nI k) := rfl
      rw [st]
      unfold k_X4_drop_22s
      rw [if_pos zS.1.1, z4, e1, if_neg (nI_ge (by omega) (by omega)), zS.1.2.1, zS.2.1, if_pos rfl, nI_1, if_pos ((nI_wix (by omega)).mpr (show k + 1 < 41 by omega)), nI_clamp (by omega), zk1, if_pos hnx, if_pos ((nI_wix (by omega)).mpr (show k < 41 by omega)), nI_clamp (by omega)]
      refine ih (k + 1) fu _ (by omega) (by omega) (by omega) zS.arr z4 (fun j hj => ?_) (ze.tr (Eqx.sR rfl))
      rw [hgR_sR]
      by_cases q : j = k
      · rw [if_pos ⟨rfl, rfl, q⟩, if_neg (by omega), if_pos (by omega), q]
      · rw [if_neg (fun z => q z.2.2), zA j hj]
        by_cases q1 : j < i
        · rw [if_pos q1, if_pos q1]
        · rw [if_neg q1, if_neg q1]
          by_cases q2 : j < k
          · rw [if_pos q2, if_pos (by omega)]
          · rw [if_neg q2, if_neg (by omega)]
  obtain ⟨B, e1, e2, e3, e4, e5, e6⟩ := L (cs.length - 1 - i) i FU A (by omega) (Nat.le_refl _) (by unfold FU; omega) hS c4 (fun j hj => by
    rw [c1 j hj]
    by_cases q1 : j < i
    · rw [if_pos q1]
    · rw [if_neg q1, if_neg q1]) Eqx.rf
  have hlen : (cs.eraseIdx i).length = cs.length - 1 := List.length_eraseIdx_of_lt hi
  refine ⟨B, fun j => ad (s j), ?_, e2, JC.perm (cs := cs) s c2 c3 c6 c7 e6 e4 (fun j hj => ?_) (fun j k hj hk z => ?_) (by rw [hlen]; exact e3) (by omega) (fun j hj => ?_), e5, e6⟩
  · unfold f_X4_drop
    rw [if_neg (nI_pos (by omega)), if_pos a0, c4, if_pos (nI_lt hi (by omega)), a1, b1, if_pos rfl, if_pos ((nI_wix (by omega)).mpr (show i < 41 by omega)), nI_clamp (by omega), c1 i (by omega), e1]
  · show (if j < i then j else if j < cs.length - 1 then j + 1 else if j = cs.length - 1 then i else j) < 41
    split
    · omega
    · split
      · omega
      · split <;> omega
  · have z : (if j < i then j else if j < cs.length - 1 then j + 1 else if j = cs.length - 1 then i else j) = (if k < i then k else if k < cs.length - 1 then k + 1 else if k = cs.length - 1 then i else k) := z
    split at z
    · split at z
      · exact z
      · split at z
        · omega
        · split at z <;> omega
    · split at z
      · split at z
        · omega
        · split at z
          · omega
          · split at z <;> omega
      · split at z
        · split at z
          · omega
          · split at z
            · omega
            · split at z <;> omega
        · split at z
          · omega
          · split at z
            · omega
            · split at z <;> omega
  · rw [hlen] at hj
    have hs : s j = if j < i then j else j + 1 := by
      show (if j < i then j else if j < cs.length - 1 then j + 1 else if j = cs.length - 1 then i else j) = _
      by_cases q : j < i
      · rw [if_pos q, if_pos q]
      · rw [if_neg q, if_neg q, if_pos hj]
    refine ⟨by rw [hs]; split <;> omega, cg_of ?_⟩
    rw [List.getElem?_eraseIdx, hs]
    split <;> rfl
/-- a counter grows -/
theorem JQ.bump {A : Hp} {J : Nat} {v : JV} (h : JQ A J v) {i n : Nat} (hi : i < 7) : JQ (hsI A 1034 (J + 408) i (nI (jK v i + n))) J (v.1, v.2.1, v.2.2.1, v.2.2.2.1, (fun j => if j = i then jK v i + n else jK v j), v.2.2.2.2.2) := by
  obtain ⟨a1, a2, a3, a4, a5, a6⟩ := h
  have e : Eqx (fun q => q = J + 408) A (hsI A 1034 (J + 408) i (nI (jK v i + n))) := Eqx.sI rfl
  refine ⟨a1.eq e (fun q z w => by have := z.2; have w : q = J + 408 := w; omega), a2.eq e (fun q z w => by have := z.2; have w : q = J + 408 := w; omega), a3.eq e (fun q z w => by have := z.2; have w : q = J + 408 := w; omega), a4.eq e (by omega) (by omega), fun j hj => by rw [hgI_sI, if_neg (by omega)]; exact a5 j hj, fun j hj => ?_⟩
  rw [hgI_sI]
  show _ = nI (if j = i then jK v i + n else jK v j)
  by_cases q : j = i
  · rw [if_pos ⟨rfl, rfl, q⟩, if_pos q]
  · rw [if_neg (fun z => q z.2.2), if_neg q]
    exact a6 j hj
