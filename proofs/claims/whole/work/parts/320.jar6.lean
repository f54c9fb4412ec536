/-! the jar of the class: searching, mixing, the header -/
def fnb (d : List Int32) : List CkV → Nat → Option Nat
  | [], _ => none
  | c :: cs, i => if dcmp (cD c) d < 0 then fnb d cs (i + 1) else some i
section
variable {A : Hp} {J : Nat} {ad : Nat → Nat} {cs : List CkV} {v : JV} {f : CkV}
theorem JC.firstNotBefore (hS : JS A J) (h : JC A J ad cs) (ho : okl cs) {r cap : Nat} {d : List Int32} (hr : Rw A r cap d) (hd : isDom d = true) : f_X4_firstNotBefore A J r = some (oI (fnb d cs 0)) := by
  obtain ⟨⟨a0, a1, a2, a3, a4, a5, a6, a7, a8, a9⟩, b1, b2, b3, b4⟩ := hS
  obtain ⟨c1, c2, c3, c4, c5, c6, c7⟩ := h
  have L : ∀ e i fu, i + e = cs.length → e < fu → k_X4_firstNotBefore_2 A J r fu (nI i) = some (oI (fnb d (cs.drop i) i)) := by
    intro e
    induction e with
    | zero =>
      intro i fu h1 h2
      obtain ⟨fu, rfl⟩ : ∃ f, fu = f + 1 := ⟨fu - 1, by omega⟩
      show k_X4_firstNotBefore_2s A J r _ _ = _
      unfold k_X4_firstNotBefore_2s
      rw [if_pos a0, c4, if_pos (nI_le (by omega) (by omega)), List.drop_of_length_le (by omega)]
      rfl
    | succ e ih =>
      intro i fu h1 h2
      obtain ⟨fu, rfl⟩ : ∃ f, fu = f + 1 := ⟨fu - 1, by omega⟩
      show k_X4_firstNotBefore_2s A J r _ _ = _
      unfold k_X4_firstNotBefore_2s
      have hk := c6 i (by omega)
      rw [if_pos a0, c4, if_neg (nI_ge (by omega) (by omega)), a1, b1, if_pos rfl, if_pos ((nI_wix (by omega)).mpr (show i < 41 by omega)), nI_clamp (by omega), c1 i (by omega), if_pos hk.1.1, hk.1.2.2.2.1, hk.2.2.2.2.1.dcompare hr (ho _ (cg_mem (by omega))).1 hd, Option.bind_some, nI_1, ih (i + 1) fu (by omega) (by omega), cg_drop (cs := cs) (i := i) (by omega)]
      show _ = some (oI (if dcmp (cD (cg cs i)) d < 0 then fnb d (cs.drop (i + 1)) (i + 1) else some i))
      by_cases q : dcmp (cD (cg cs i)) d < 0
      · rw [if_pos q, if_pos q]
      · rw [if_neg q, if_neg q]; rfl
  unfold f_X4_firstNotBefore
  exact L cs.length 0 FU (by omega) (by unfold FU; omega)
def eaS (x : Int64) (c : CkV) : Int64 := if cE c = -1 then x else if x = -1 then cE c else if x ≤ cE c then x else cE c
theorem JC.earliest (hS : JS A J) (h : JC A J ad cs) : f_X4_earliestExpiry A J = some (cs.foldl eaS (-1)) := by
  obtain ⟨⟨a0, a1, a2, a3, a4, a5, a6, a7, a8, a9⟩, b1, b2, b3, b4⟩ := hS
  obtain ⟨c1, c2, c3, c4, c5, c6, c7⟩ := h
  have L : ∀ e i x fu, i + e = cs.length → e < fu → k_X4_earliestExpiry_6 A J fu x (nI i) = some ((cs.drop i).foldl eaS x) := by
    intro e
    induction e with
    | zero =>
      intro i x fu h1 h2
      obtain ⟨fu, rfl⟩ : ∃ f, fu = f + 1 := ⟨fu - 1, by omega⟩
      show k_X4_earliestExpiry_6s A J _ _ _ = _
      unfold k_X4_earliestExpiry_6s
      rw [if_pos a0, c4, if_pos (nI_le (by omega) (by omega)), List.drop_of_length_le (by omega)]
      rfl
    | succ e ih =>
      intro i x fu h1 h2
      obtain ⟨fu, rfl⟩ : ∃ f, fu = f + 1 := ⟨fu - 1, by omega⟩
      show k_X4_earliestExpiry_6s A J _ _ _ = _
      unfold k_X4_earliestExpiry_6s k_X4_earliestExpiry_49 k_X4_earliestExpiry_52
      have hk := c6 i (by omega)
      rw [if_pos a0, c4, if_neg (nI_ge (by omega) (by omega)), a1, b1, if_pos rfl, if_pos ((nI_wix (by omega)).mpr (show i < 41 by omega)), nI_clamp (by omega), c1 i (by omega), if_pos hk.1.1, hk.2.1.1.1, nI_1, cg_drop (cs := cs) (i := i) (by omega), List.foldl_cons, ih (i + 1) _ fu (by omega) (by omega), ih (i + 1) _ fu (by omega) (by omega)]
      unfold eaS
      by_cases q1 : cE (cg cs i) = -1
      · rw [if_pos q1, if_pos q1]
      · rw [if_neg q1, if_neg q1]
        by_cases q2 : x = -1
        · rw [if_pos q2, if_pos q2]
        · rw [if_neg q2, if_neg q2]
          by_cases q3 : x ≤ cE (cg cs i)
          · rw [if_pos q3, if_pos q3]
          · rw [if_neg q3, if_neg q3]
  unfold f_X4_earliestExpiry
  exact L cs.length 0 (-1) FU (by omega) (by unfold FU; omega)
def mixK (k : Nat → Nat) (x : Int64) : Nat → Int64
  | 0 => x
  | n + 1 => 31 * mixK k x n + (nI (k n)).toInt64
def mixJ (v : JV) : Int64 := mixK (jK v) ((jC v).foldl (fun x c => mixC c x) (713 + jT v)) 7
theorem Jr.mix (h : Jr A J v f) : f_X4_mix A J = some (mixJ v) := by
  obtain ⟨hS, hF, hQ, ⟨ad, hC⟩, -⟩ := h
  obtain ⟨⟨a0, a1, a2, a3, a4, a5, a6, a7, a8, a9⟩, b1, b2, b3, b4⟩ := hS
  obtain ⟨c1, c2, c3, c4, c5, c6, c7⟩ := hC
  have M : ∀ e i x y fu, i + e = 7 → e < fu → y = mixK (jK v) x i → k_X4_mix_38 A J fu y (nI i) = some (mixK (jK v) x 7) := by
    intro e
    induction e with
    | zero =>
      intro i x y fu h1 h2 h3
      obtain ⟨fu, rfl⟩ : ∃ f, fu = f + 1 := ⟨fu - 1, by omega⟩
      have : i = 7 := by omega
      subst this
      show k_X4_mix_38s A J _ _ _ = _
      unfold k_X4_mix_38s
      rw [if_pos (show (7 : Int32) ≤ nI 7 from Int32.le_rfl), h3]
    | succ e ih =>
      intro i x y fu h1 h2 h3
      obtain ⟨fu, rfl⟩ : ∃ f, fu = f + 1 := ⟨fu - 1, by omega⟩
      show k_X4_mix_38s A J _ _ _ = _
      unfold k_X4_mix_38s
      rw [if_neg (show ¬ (7 : Int32) ≤ nI i from nI_ge (b := 7) (by omega) (by omega)), if_pos a0, a9, b4, if_pos rfl, if_pos ((nI_wix (by omega)).mpr (show i < 7 by omega)), nI_clamp (by omega), hQ.2.2.2.2.2 i (by omega), nI_1]
      exact ih (i + 1) x _ fu (by omega) (by omega) (by rw [h3]; rfl)
  have L : ∀ e i x fu, i + e = (jC v).length → e < fu → k_X4_mix_11 A J fu x (nI i) = some (mixK (jK v) (((jC v).drop i).foldl (fun x c => mixC c x) x) 7) := by
    intro e
    induction e with
    | zero =>
      intro i x fu h1 h2
      obtain ⟨fu, rfl⟩ : ∃ f, fu = f + 1 := ⟨fu - 1, by omega⟩
      show k_X4_mix_11s A J _ _ _ = _
      unfold k_X4_mix_11s
      rw [if_pos a0, c4, if_pos (nI_le (by omega) (by omega)), List.drop_of_length_le (by omega)]
      exact M 7 0 x x FU (by omega) (by unfold FU; omega) rfl
    | succ e ih =>
      intro i x fu h1 h2
      obtain ⟨fu, rfl⟩ : ∃ f, fu = f + 1 := ⟨fu - 1, by omega⟩
      show k_X4_mix_11s A J _ _ _ = _
      unfold k_X4_mix_11s
      have hk := c6 i (by omega)
      rw [if_pos a0, c4, if_neg (nI_ge (by omega) (by omega)), a1, b1, if_pos rfl, if_pos ((nI_wix (by omega)).mpr (show i < 41 by omega)), nI_clamp (by omega), c1 i (by omega), if_pos hk.1.1, hk.mix, Option.bind_some, nI_1, ih (i + 1) _ fu (by omega) (by omega), cg_drop (cs := jC v) (i := i) (by omega), List.foldl_cons]
  unfold f_X4_mix mixJ
  rw [if_pos a0, hF.2.2]
  exact L (jC v).length 0 _ FU (by omega) (by unfold FU; omega)
end
-- the queue of those that are sent
def posQ (cs : List CkV) (L : List Nat) (i : Nat) : Nat → Nat
  | 0 => 0
  | k + 1 => if sntB (cg cs i) (cg cs (L.getD k 0)) then posQ cs L i k else k + 1
theorem posQ_le (cs : List CkV) (L : List Nat) (i : Nat) : ∀ k, posQ cs L i k ≤ k := by
  intro k
  induction k with
  | zero => exact Nat.le_refl _
  | succ k ih =>
    show (if sntB (cg cs i) (cg cs (L.getD k 0)) = true then posQ cs L i k else k + 1) ≤ _
    split <;> omega
def enq (cs : List CkV) (L : List Nat) (i : Nat) : List Nat := L.insertIdx (posQ cs L i L.length) i
def Qu (A : Hp) (J : Nat) (L : List Nat) : Prop := ∀ k, k < L.length → hgI A 1034 (J + 380) k = nI (L.getD k 0)
theorem insN {L : List Nat} {p i : Nat} (hp : p ≤ L.length) (j : Nat) : (L.insertIdx p i).getD j 0 = if j < p then L.getD j 0 else if j = p then i else L.getD (j - 1) 0 := by
  simp only [List.getD_eq_getElem?_getD]
  rw [List.getElem?_insertIdx]
  by_cases q1 : j < p
  · rw [if_pos q1, if_pos q1]
  · rw [if_neg q1, if_neg q1]
    by_cases q2 : j = p
    · rw [if_pos q2, if_pos q2, if_pos (by omega)]; rfl
    · rw [if_neg q2, if_neg q2]
theorem JC.enqueue {A : Hp} {J : Nat} {ad : Nat → Nat} {cs : List CkV} (hS : JS A J) (h : JC A J ad cs) (ho : okl cs) {L : List Nat} (hL : Qu A J L) (hb : ∀ k ∈ L, k < cs.length) {i : Nat} (hi : i < cs.length) (hl : L.length < 41) : ∃ B, f_X4_enqueue A J (nI i) (nI L.length) = some B ∧ Qu B J (enq cs L i) ∧ Eqx (fun q => q = J + 380) A B := by
  have hc5 := h.2.2.2.2.1
  have hbd : ∀ k, k < L.length → L.getD k 0 < cs.length := fun k hk => hb _ (by rw [List.getD_eq_getElem?_getD, List.getElem?_eq_getElem hk]; exact List.getElem_mem hk)
  have K : ∀ k fu A', k ≤ L.length → k < fu → Eqx (fun q => q = J + 380) A A' → (∀ j, j < k → hgI A' 1034 (J + 380) j = nI (L.getD j 0)) → (∀ j, k < j → j ≤ L.length → hgI A' 1034 (J + 380) j = nI (L.getD (j - 1) 0)) → ∃ B, k_X4_enqueue_2 J (nI i) fu A' (nI k) = some B ∧ Eqx (fun q => q = J + 380) A B ∧ (∀ j, j < posQ cs L i k → hgI B 1034 (J + 380) j = nI (L.getD j 0)) ∧ hgI B 1034 (J + 380) (posQ cs L i k) = nI i ∧ (∀ j, posQ cs L i k < j → j ≤ L.length → hgI B 1034 (J + 380) j = nI (L.getD (j - 1) 0)) := by
    intro k
    have fin : ∀ k A', k ≤ L.length → Eqx (fun q => q = J + 380) A A' → (∀ j, j < k → hgI A' 1034 (J + 380) j = nI (L.getD j 0)) → (∀ j, k < j → j ≤ L.length → hgI A' 1034 (J + 380) j = nI (L.getD (j - 1) 0)) → ∃ B, k_X4_enqueue_51 A' J (nI i) (nI k) = some B ∧ Eqx (fun q => q = J + 380) A B ∧ (∀ j, j < k → hgI B 1034 (J + 380) j = nI (L.getD j 0)) ∧ hgI B 1034 (J + 380) k = nI i ∧ (∀ j, k < j → j ≤ L.length → hgI B 1034 (J + 380) j = nI (L.getD (j - 1) 0)) := by
      intro k A' hk he h1 h2
      have hS' := hS.eq he (by omega)
      refine ⟨hsI A' 1034 (J + 380) k (nI i), ?_, he.tr ea_I, fun j hj => by rw [hgI_sI, if_neg (by omega)]; exact h1 j hj, by rw [hgI_sI, if_pos ⟨rfl, rfl, rfl⟩], fun j hj hj2 => by rw [hgI_sI, if_neg (by omega)]; exact h2 j hj hj2⟩
      unfold k_X4_enqueue_51
      rw [if_pos hS'.1.1, hS'.1.2.2.2.1, hS'.2.2.1, if_pos rfl, if_pos ((nI_wix (by omega)).mpr (show k < 41 by omega)), nI_clamp (by omega)]
    induction k with
    | zero =>
      intro fu A' hk hf he h1 h2
      obtain ⟨fu, rfl⟩ : ∃ f, fu = f + 1 := ⟨fu - 1, by omega⟩
      show ∃ B, k_X4_enqueue_2s J _ _ _ _ = some B ∧ _
      unfold k_X4_enqueue_2s
      rw [if_pos (show nI 0 ≤ 0 from Int32.le_rfl)]
      exact fin 0 A' hk he h1 h2
    | succ k ih =>
      intro fu A' hk hf he h1 h2
      obtain ⟨fu, rfl⟩ : ∃ f, fu = f + 1 := ⟨fu - 1, by omega⟩
      have hS' := hS.eq he (by omega)
      have hC' := h.eq he (fun q z1 z2 w => by have w : q = J + 380 := w; omega)
      have hlk := hbd k (by omega)
      have hki := hC'.2.2.2.2.2.1 i hi
      have hkk := hC'.2.2.2.2.2.1 _ hlk
      have hst : k_X4_enqueue_2 J (nI i) (fu + 1) A' (nI (k + 1)) = k_X4_enqueue_2s J (nI i) (k_X4_enqueue_2 J (nI i) fu) A' (nI (k + 1)) := rfl
      rw [hst]
      unfold k_X4_enqueue_2s
      rw [if_neg (nI_nle (by omega) (by omega)), if_pos hS'.1.1, hS'.1.2.1, hS'.2.1, if_pos rfl, if_pos ((nI_wix (by omega)).mpr (show i < 41 by omega)), hS'.1.2.2.2.1, hS'.2.2.1, if_pos rfl, m1_nI, if_pos ((nI_wix (by omega)).mpr (show k < 41 by omega)), nI_clamp (n := k) (by omega), h1 k (by omega), if_pos ((nI_wix (by omega)).mpr (show L.getD k 0 < 41 by omega)), nI_clamp (n := i) (by omega), hC'.1 i (by omega), if_pos hki.1.1, nI_clamp (n := L.getD k 0) (by omega), hC'.1 _ (by omega), hki.isSentBefore hkk (ho _ (cg_mem hi)) (ho _ (cg_mem hlk)), Option.bind_some]
      have hp9 : posQ cs L i (k + 1) = if sntB (cg cs i) (cg cs (L.getD k 0)) then posQ cs L i k else k + 1 := rfl
      rw [hp9]
      cases sntB (cg cs i) (cg cs (L.getD k 0))
      · rw [if_pos (by rfl)]
        exact fin (k + 1) A' hk he h1 h2
      · rw [if_neg (show ¬ bI true = 0 by decide), if_pos ((nI_wix (by omega)).mpr (show k + 1 < 41 by omega)), nI_clamp (n := k + 1) (by omega), pk_m1, if_pos rfl]
        refine ih fu _ (by omega) (by omega) (he.tr ea_I) (fun j hj => by rw [hgI_sI, if_neg (by omega)]; exact h1 j (by omega)) (fun j hj hj2 => ?_)
        rw [hgI_sI]
        by_cases q : j = k + 1
        · rw [if_pos ⟨rfl, rfl, q⟩, q]; rfl
        · rw [if_neg (fun z => q z.2.2)]
          exact h2 j (by omega) hj2
  unfold f_X4_enqueue
  obtain ⟨B, e1, e2, e3, e4, e5⟩ := K L.length FU A (Nat.le_refl _) (by unfold FU; omega) Eqx.rf (fun j hj => hL j hj) (fun j hj hj2 => by omega)
  refine ⟨B, e1, fun j hj => ?_, e2⟩
  have hpl := posQ_le cs L i L.length
  unfold enq at hj ⊢
  rw [List.length_insertIdx_of_le_length hpl] at hj
  rw [insN hpl]
  by_cases q1 : j < posQ cs L i L.length
  · rw [if_pos q1]; exact e3 j q1
  · rw [if_neg q1]
    by_cases q2 : j = posQ cs L i L.length
    · rw [if_pos q2, q2]; exact e4
    · rw [if_neg q2]; exact e5 j (by omega) (by omega)
