/-! the reference: domains, suffixes, copies -/
def SuM (μ : Nat → Int64) (us : SL) : Prop := μ 6 = lN us.length ∧ us.length ≤ 6 ∧ ∀ i, i < us.length → μ (180 + 32 * i) = lN (sgn us i).length ∧ Sg μ (181 + 32 * i) (sgn us i) ∧ 1 ≤ (sgn us i).length ∧ (sgn us i).length ≤ 30
theorem SuM.congr {μ ν : Nat → Int64} {us : SL} (h : SuM μ us) (e6 : ν 6 = μ 6) (e : ∀ k, 180 ≤ k → k < 372 → ν k = μ k) : SuM ν us :=
  ⟨by rw [e6]; exact h.1, h.2.1, fun i hi => by
    have q := h.2.2 i hi
    have := h.2.1
    exact ⟨by rw [e _ (by omega) (by omega)]; exact q.1, q.2.1.congr (fun k h1 h2 => e k (by omega) (by omega)), q.2.2⟩⟩
theorem dm_len {d u : List Int32} (h : dm d u = true) : u.length ≤ d.length ∧ (d.length - u.length ≤ labS d d.length) := by
  unfold dm at h
  rw [Bool.and_eq_true, Bool.and_eq_true, Bool.or_eq_true, decide_eq_true_iff, decide_eq_true_iff, decide_eq_true_iff] at h
  refine ⟨h.1.1, ?_⟩
  rcases h.1.2 with q | q
  · omega
  · rcases Nat.eq_zero_or_pos (d.length - u.length) with z | z
    · omega
    · exact labS_max z (by omega) q
section
variable {A : Hp} {M a b : Nat} {s u : List Int32} {us : SL}
theorem Ms.isDomain (h : Ms A M) (hs : Sg (mu A M) a s) (ha : a + s.length ≤ 9000) : f_X9_isDomain A M (nI a) (nI s.length) = some (bI (isDom s)) := by
  have L : ∀ e i fu (x : Bool), i + e = s.length → e < fu → ∃ r : Bool, k_X9_isDomain_13 A M (nI a) (nI s.length) fu (bI x) (nI i) = some (bI r) ∧ (r = true ↔ x = true ∧ ∀ k, i ≤ k → k < s.length → isLab (g s k) = true ∨ (g s k = 46 ∧ 0 < k ∧ k + 1 < s.length ∧ g s (k - 1) ≠ 46)) := by
    intro e
    induction e with
    | zero =>
      intro i fu x h1 h2
      obtain ⟨fu, rfl⟩ : ∃ f, fu = f + 1 := ⟨fu - 1, by omega⟩
      refine ⟨x, ?_, ⟨fun z => ⟨z, fun k h3 h4 => by omega⟩, fun z => z.1⟩⟩
      show k_X9_isDomain_13s A M _ _ _ _ _ = _
      unfold k_X9_isDomain_13s
      rw [if_pos (nI_le (by omega) (by omega)), if_pos (bI_Z x)]
    | succ e ih =>
      intro i fu x h1 h2
      obtain ⟨fu, rfl⟩ : ∃ f, fu = f + 1 := ⟨fu - 1, by omega⟩
      show ∃ r : Bool, k_X9_isDomain_13s A M _ _ _ _ _ = _ ∧ _
      unfold k_X9_isDomain_13s k_X9_isDomain_74 k_X9_isDomain_75 k_X9_isDomain_97 k_X9_isDomain_102
      rw [if_neg (nI_ge (by omega) (by omega))]
      cases x
      · refine ⟨false, ?_, ⟨(fun z => by cases z), (fun z => by cases z.1)⟩⟩
        rw [if_pos (by rfl), if_pos (bI_Z false)]
      · rw [if_neg (by decide), nI_add, h.gd (by omega), h.vl (by omega), show mu A M (a + i) = _ from hs i (by omega), nI_1, if_neg (show ¬ (1 : Int32) = 0 by decide)]
        have hlb : ∀ (T F : Option Int32), (if (hsh A M).1 = 8 then if (hsh A (hgR A 448 M 0)).1 = 11 then if wix (nI (a + i)) (hsh A (hgR A 448 M 0)).2 then ((f_X9_isLabelSign A (g s i).toInt64).bind fun v6 => (if v6 = (0 : Int32) then F else T)) else none else none else none) = if isLab (g s i) = true then T else F := by
          intro T F
          rw [h.gd (by omega), Ms.labelSign, Option.bind_some]
          cases isLab (g s i)
          · rw [if_pos (by rfl), if_neg (by decide)]
          · rw [if_neg (by decide), if_pos rfl]
        rw [if_pos (show (0 : Int32) = 0 from rfl), hlb]
        by_cases hd : g s i = 46
        · rw [if_pos (show (g s i).toInt64 = (46 : Int64) from (cq 46 (by decide)).mpr hd)]
          have hnl : isLab (g s i) = false := by rw [hd]; exact isLab_46
          rw [hnl, if_neg (show ¬ false = true by decide)]
          have bad : ¬ (0 < i ∧ i + 1 < s.length ∧ g s (i - 1) ≠ 46) → ∃ r : Bool, k_X9_isDomain_13 A M (nI a) (nI s.length) fu 0 (nI (i + 1)) = some (bI r) ∧ (r = true ↔ true = true ∧ ∀ k, i ≤ k → k < s.length → isLab (g s k) = true ∨ (g s k = 46 ∧ 0 < k ∧ k + 1 < s.length ∧ g s (k - 1) ≠ 46)) := by
            intro hb
            obtain ⟨r, e1, e2⟩ := ih (i + 1) fu false (by omega) (by omega)
            refine ⟨r, e1, ⟨(fun z => by have := (e2.mp z).1; cases this), fun z => ?_⟩⟩
            rcases z.2 i (Nat.le_refl _) (by omega) with q | q
            · rw [hnl] at q; cases q
            · exact absurd q.2 hb
          by_cases h0 : 0 < i
          · rw [if_neg (nI_nle h0 (by omega)), show nI s.length - (1 : Int32) = nI (s.length - 1) from pk_sub (b := 1) (by omega)]
            by_cases hl : i + 1 < s.length
            · rw [if_neg (nI_ge (show i < s.length - 1 by omega) (by omega)), show nI (a + i) - (1 : Int32) = nI (a + i - 1) from pk_sub (b := 1) (by omega), if_pos (h.wx (by omega)), h.vl (by omega), show a + i - 1 = a + (i - 1) by omega, show mu A M (a + (i - 1)) = _ from hs (i - 1) (by omega)]
              by_cases hp : g s (i - 1) = 46
              · rw [if_pos (show (g s (i - 1)).toInt64 = (46 : Int64) from (cq 46 (by decide)).mpr hp)]
                exact bad (fun z => z.2.2 hp)
              · rw [if_neg (show ¬ (g s (i - 1)).toInt64 = (46 : Int64) from fun z => hp ((cq 46 (by decide)).mp z))]
                obtain ⟨r, e1, e2⟩ := ih (i + 1) fu true (by omega) (by omega)
                refine ⟨r, e1, e2.trans ⟨fun z => ⟨rfl, fun k h3 h4 => ?_⟩, fun z => ⟨rfl, fun k h3 h4 => z.2 k (by omega) h4⟩⟩⟩
                by_cases hk : k = i
                · rw [hk]; exact Or.inr ⟨hd, h0, hl, hp⟩
                · exact z.2 k (by omega) h4
            · rw [if_pos (nI_le (by omega) (by omega))]
              exact bad (fun z => hl z.2.1)
          · rw [if_pos (show nI i ≤ 0 from nI_le (b := 0) (by omega) (by omega))]
            exact bad (fun z => h0 z.1)
        · rw [if_neg (show ¬ (g s i).toInt64 = (46 : Int64) from fun z => hd ((cq 46 (by decide)).mp z))]
          by_cases hlb2 : isLab (g s i) = true
          · rw [if_pos hlb2]
            obtain ⟨r, e1, e2⟩ := ih (i + 1) fu true (by omega) (by omega)
            refine ⟨r, e1, e2.trans ⟨fun z => ⟨rfl, fun k h3 h4 => ?_⟩, fun z => ⟨rfl, fun k h3 h4 => z.2 k (by omega) h4⟩⟩⟩
            by_cases hk : k = i
            · rw [hk]; exact Or.inl hlb2
            · exact z.2 k (by omega) h4
          · rw [if_neg hlb2]
            obtain ⟨r, e1, e2⟩ := ih (i + 1) fu false (by omega) (by omega)
            refine ⟨r, e1, ⟨(fun z => by have := (e2.mp z).1; cases this), fun z => ?_⟩⟩
            rcases z.2 i (Nat.le_refl _) (by omega) with q | q
            · exact absurd q hlb2
            · exact absurd q.1 hd
  unfold f_X9_isDomain
  rw [nI_l (by omega), show f_X9_in A (lN s.length) (1 : Int64) (30 : Int64) = _ from inn_ (a := 1) (b := 30) (by omega) (by omega) (by omega), Option.bind_some]
  obtain ⟨r, e1, e2⟩ := L s.length 0 FU (decide (1 ≤ s.length ∧ s.length ≤ 30)) (by omega) (by unfold FU; omega)
  refine Eq.trans e1 ?_
  congr 2
  rw [Bool.eq_iff_iff, e2, isDom_iff, decide_eq_true_iff, and_assoc]
  exact ⟨fun z => ⟨z.1, z.2.1, fun k hk => z.2.2 k (Nat.zero_le _) hk⟩, fun z => ⟨z.1, z.2.1, fun k _ hk => z.2.2 k hk⟩⟩
def sufI (d : List Int32) (st best : Nat) : Prop := (best = 0 ∧ st = labS d d.length) ∨ (0 < best ∧ best ≤ d.length ∧ st = d.length - best)
theorem Ms.suffixLong (h : Ms A M) (hu : SuM (mu A M) us) (hs : Sg (mu A M) a s) (ha : a + s.length ≤ 9000) : f_X9_suffixLong A M (nI a) (nI s.length) = some (nI (s.length - pubS us s)) := by
  obtain ⟨u1, u2, u3⟩ := hu
  have L : ∀ e i st best fu, i + e = us.length → e < fu → sufI s st best → k_X9_suffixLong_5 A M (nI a) (nI s.length) fu (nI best) (nI i) = some (nI (s.length - (us.drop i).foldl (pubF s) st)) := by
    intro e
    induction e with
    | zero =>
      intro i st best fu h1 h2 h3
      obtain ⟨fu, rfl⟩ : ∃ f, fu = f + 1 := ⟨fu - 1, by omega⟩
      show k_X9_suffixLong_5s A M _ _ _ _ _ = _
      unfold k_X9_suffixLong_5s
      rw [show (6 : Int32) = nI 6 from rfl, h.gd (by omega), h.vl (by omega), show mu A M 6 = _ from u1, nI_l (by omega), if_pos ((lN_le (by omega) (by omega)).mpr (by omega)), List.drop_of_length_le (by omega)]
      show _ = some (nI (s.length - st))
      rcases h3 with ⟨q1, q2⟩ | ⟨q1, q2, q3⟩
      · rw [q1, if_pos (show nI 0 ≤ 0 from Int32.le_rfl), h.labelFrom hs ha (Nat.le_refl _), Option.bind_some, pk_sub (labS_le s _), q2]
      · rw [if_neg (nI_nle q1 (by omega)), q3, show s.length - (s.length - best) = best by omega]
    | succ e ih =>
      intro i st best fu h1 h2 h3
      obtain ⟨fu, rfl⟩ : ∃ f, fu = f + 1 := ⟨fu - 1, by omega⟩
      show k_X9_suffixLong_5s A M _ _ _ _ _ = _
      obtain ⟨v1, v2, v3, v4⟩ := u3 i (by omega)
      have hbl : best ≤ s.length := by rcases h3 with q | q <;> omega
      unfold k_X9_suffixLong_5s k_X9_suffixLong_66 k_X9_suffixLong_67
      rw [show (6 : Int32) = nI 6 from rfl, h.gd (by omega), h.vl (by omega), show mu A M 6 = _ from u1, nI_l (by omega), if_neg (fun z => by have := (lN_le (by omega) (by omega)).mp z; omega), show (32 : Int32) * nI i = nI (32 * i) from nI_mul 32 i, show (180 : Int32) + nI (32 * i) = nI (180 + 32 * i) from nI_add 180 _, if_pos (h.wx (by omega)), h.vl (by omega), show mu A M (180 + 32 * i) = _ from v1, lN_i, nI_1, nI_1, show 180 + 32 * i + 1 = 181 + 32 * i by omega, sgn_drop (by omega), List.foldl_cons]
      by_cases q : (sgn us i).length ≤ best
      · rw [if_pos (nI_le q (by omega)), ih (i + 1) st best fu (by omega) (by omega) h3]
        have : pubF s st (sgn us i) = st := by
          unfold pubF
          split
          · rename_i hm
            have := dm_len hm
            rcases h3 with z | z <;> omega
          · rfl
        rw [this]
      · rw [if_neg (nI_ge (by omega) (by omega)), h.matches hs v2 ha (by omega), Option.bind_some]
        cases hm : dm s (sgn us i)
        · rw [if_pos (by rfl), ih (i + 1) st best fu (by omega) (by omega) h3]
          have : pubF s st (sgn us i) = st := by unfold pubF; rw [hm]; rfl
          rw [this]
        · have hl := dm_len hm
          have hp : pubF s st (sgn us i) = s.length - (sgn us i).length := by
            unfold pubF
            rw [hm, if_pos rfl]
            rcases h3 with z | z <;> omega
          rw [if_neg (by decide), hp, ih (i + 1) _ _ fu (by omega) (by omega) (Or.inr ⟨by omega, hl.1, rfl⟩)]
  unfold f_X9_suffixLong pubS
  exact L us.length 0 _ 0 FU (by omega) (by unfold FU; omega) (Or.inl ⟨rfl, rfl⟩)
theorem Ms.isPublic (h : Ms A M) (hu : SuM (mu A M) us) (hs : Sg (mu A M) a s) (ha : a + s.length ≤ 9000) : f_X9_isPublic A M (nI a) (nI s.length) = some (bI (isDom s && decide (pubS us s = 0))) := by
  unfold f_X9_isPublic
  rw [if_pos h.1, h.isDomain hs ha, Option.bind_some]
  cases hd : isDom s
  · rw [if_pos (by rfl), Bool.false_and]; rfl
  · rw [if_neg (by decide), h.suffixLong hu hs ha, Option.bind_some, Bool.true_and, ifI]
    congr 2
    rw [decide_eq_decide, nI_eq (by omega) (by omega)]
    have := pubS_le us s
    have := (isDom_iff.mp hd).1
    omega
theorem Ms.siteFrom (h : Ms A M) (hu : SuM (mu A M) us) (hs : Sg (mu A M) a s) (ha : a + s.length ≤ 9000) : f_X9_siteFrom A M (nI a) (nI s.length) = some (nI (siteS us s)) := by
  have hl := pubS_le us s
  unfold f_X9_siteFrom siteS
  rw [if_pos h.1, h.suffixLong hu hs ha, Option.bind_some]
  by_cases h0 : pubS us s = 0
  · rw [if_pos (by rw [h0]; rfl), if_pos h0]; rfl
  · rw [if_neg (fun z => by have := (nI_eq (by omega) (by omega)).mp z; omega), if_neg h0, pk_sub (by omega), show s.length - (s.length - pubS us s) = pubS us s by omega, show nI (pubS us s) - (1 : Int32) = nI (pubS us s - 1) from pk_sub (b := 1) (by omega), h.labelFrom hs ha (by omega)]
    rfl
theorem Ms.areOneSite (h : Ms A M) (hU : SuM (mu A M) us) (hs : Sg (mu A M) a s) (hu : Sg (mu A M) b u) (ha : a + s.length ≤ 9000) (hb : b + u.length ≤ 9000) : f_X9_areOneSite A M (nI a) (nI s.length) (nI b) (nI u.length) = some (bI (sameSt us s u)) := by
  have l1 := siteS_le us s
  have l2 := siteS_le us u
  unfold f_X9_areOneSite sameSt
  rw [if_pos h.1, h.siteFrom hU hs ha, Option.bind_some, h.siteFrom hU hu hb, Option.bind_some, nI_add, nI_add, pk_sub l1, pk_sub l2]
  have e1 : s.length - siteS us s = (s.drop (siteS us s)).length := by rw [List.length_drop]
  have e2 : u.length - siteS us u = (u.drop (siteS us u)).length := by rw [List.length_drop]
  rw [e1, e2, h.areLike (hs.drop _) (hu.drop _) (by omega) (by omega), Option.bind_some, if_pos (bI_Z _)]
theorem Ms.orderedDomains (h : Ms A M) (hs : Sg (mu A M) a s) (hu : Sg (mu A M) b u) (ha : a + s.length ≤ 9000) (hb : b + u.length ≤ 9000) (ds : isDom s = true) (du : isDom u = true) : f_X9_orderedDomains A M (nI a) (nI s.length) (nI b) (nI u.length) = some (dcmp s u) := by
  have L : ∀ d e e' l f f' fu, e + e' ≤ d → nlb s e → nlb u e' → 2 * l + e ≤ 30 → e < f → e' < f' → 31 ≤ l + fu → e ≤ 30 → e' ≤ 30 → k_X9_orderedDomains_10 A M (nI a) (nI b) fu (nI e) (nI e') (nI l) = some (lcmp (keyD s f e) (keyD u f' e')) := by
    intro d
    induction d with
    | zero => intro e e' l f f' fu h1 h2; have := h2.1; omega
    | succ d ih =>
      intro e e' l f f' fu h1 h2 h3 h4 h5 h6 h7 h8 h9
      have n1 := nlb_lt h2
      have n2 := nlb_lt h3
      obtain ⟨fu, rfl⟩ : ∃ f, fu = f + 1 := ⟨fu - 1, by omega⟩
      obtain ⟨f, rfl⟩ : ∃ z, f = z + 1 := ⟨f - 1, by omega⟩
      obtain ⟨f', rfl⟩ : ∃ z, f' = z + 1 := ⟨f' - 1, by omega⟩
      show k_X9_orderedDomains_10s A M _ _ _ _ _ _ = _
      unfold k_X9_orderedDomains_10s
      have q1 := h2.1
      have q2 := h3.1
      have q3 := h2.2.1
      have q4 := h3.2.1
      have l1 : e - labS s e = (sub s (labS s e) e).length := by rw [sub_len]; omega
      have l2 : e' - labS u e' = (sub u (labS u e') e').length := by rw [sub_len]; omega
      rw [if_neg (show ¬ (31 : Int32) ≤ nI l from nI_ge (b := 31) (by omega) (by omega)), if_neg (nI_pos (by omega)), if_pos (nI_pos' (by omega)), if_pos h.1, h.labelFrom hs ha q3, Option.bind_some, h.labelFrom hu hb q4, Option.bind_some, nI_add, nI_add, pk_sub (by omega), pk_sub (by omega), l1, l2, h.ordered (hs.sub _ _) (hu.sub _ _) (by omega) (by omega), Option.bind_some]
      show _ = some (if scmp (sub s (labS s e) e) (sub u (labS u e') e') = 0 then lcmp (if labS s e = 0 then [] else keyD s f (labS s e - 1)) (if labS u e' = 0 then [] else keyD u f' (labS u e' - 1)) else scmp (sub s (labS s e) e) (sub u (labS u e') e'))
      by_cases hq : scmp (sub s (labS s e) e) (sub u (labS u e') e') = 0
      · rw [if_pos hq, if_pos hq, nI_1]
        by_cases z1 : labS s e = 0
        · rw [if_pos z1, z1]
          obtain ⟨fu, rfl⟩ : ∃ f, fu = f + 1 := ⟨fu - 1, by omega⟩
          show k_X9_orderedDomains_10s A M _ _ _ _ _ _ = _
          unfold k_X9_orderedDomains_10s
          rw [if_neg (show ¬ (31 : Int32) ≤ nI (l + 1) from nI_ge (b := 31) (by omega) (by omega)), if_pos (by decide)]
          unfold k_X9_orderedDomains_27 k_X9_orderedDomains_41
          rw [if_neg (by decide)]
          by_cases z2 : labS u e' = 0
          · rw [if_pos z2, z2, if_neg (by decide)]
            rfl
          · rw [if_neg z2, show nI (labS u e') - (1 : Int32) = nI (labS u e' - 1) from pk_sub (b := 1) (by omega)]
            have := nlb_next h3 z2
            obtain ⟨f', rfl⟩ : ∃ z, f' = z + 1 := ⟨f' - 1, by omega⟩
            rw [if_pos (nI_pos' (by omega))]
            rfl
        · have := nlb_next h2 z1
          rw [if_neg z1, show nI (labS s e) - (1 : Int32) = nI (labS s e - 1) from pk_sub (b := 1) (by omega)]
          by_cases z2 : labS u e' = 0
          · rw [if_pos z2, z2]
            obtain ⟨fu, rfl⟩ : ∃ f, fu = f + 1 := ⟨fu - 1, by omega⟩
            obtain ⟨f, rfl⟩ : ∃ z, f = z + 1 := ⟨f - 1, by omega⟩
            show k_X9_orderedDomains_10s A M _ _ _ _ _ _ = _
            unfold k_X9_orderedDomains_10s
            rw [if_neg (show ¬ (31 : Int32) ≤ nI (l + 1) from nI_ge (b := 31) (by omega) (by omega)), if_neg (nI_pos (by omega)), if_neg (show ¬ (0 : Int32) ≤ nI 0 - 1 by decide)]
            unfold k_X9_orderedDomains_27 k_X9_orderedDomains_41
            rw [if_pos (nI_pos' (by omega)), if_pos (nI_pos' (by omega))]
            rfl
          · have t2 := nlb_next h3 z2
            rw [if_neg z2, show nI (labS u e') - (1 : Int32) = nI (labS u e' - 1) from pk_sub (b := 1) (by omega)]
            exact ih _ _ _ _ _ _ (by omega) this.1 t2.1 (by omega) (by omega) (by omega) (by omega) (by omega) (by omega)
      · rw [if_neg hq, if_neg hq]
  have d1 := isDom_iff.mp ds
  have d2 := isDom_iff.mp du
  unfold f_X9_orderedDomains dcmp key
  exact L _ _ _ 0 _ _ FU (Nat.le_refl _) (isDom_nlb ds) (isDom_nlb du) (by omega) (by omega) (by omega) (by unfold FU; omega) (by omega) (by omega)
theorem Ms.pathMatches (h : Ms A M) (hs : Sg (mu A M) a s) (hu : Sg (mu A M) b u) (ha : a + s.length ≤ 9000) (hb : b + u.length ≤ 9000) (hu0 : u ≠ []) : f_X9_pathMatches A M (nI a) (nI s.length) (nI b) (nI u.length) = some (bI (pm s u)) := by
  have hu1 : 1 ≤ u.length := by
    rcases Nat.eq_zero_or_pos u.length with z | z
    · exact absurd (List.length_eq_zero_iff.mp z) hu0
    · exact z
  unfold f_X9_pathMatches k_X9_pathMatches_61 pm
  by_cases h1 : u.length ≤ s.length
  · have ht : (s.take u.length).length = u.length := by rw [List.length_take]; omega
    have := h.areLike (hs.take u.length) hu (by omega) hb
    rw [ht] at this
    rw [if_neg (nI_nlt h1 (by omega)), if_pos h.1, this, Option.bind_some, decide_eq_true h1, Bool.true_and]
    cases decide (s.take u.length = u)
    · rw [if_pos (by rfl), Bool.false_and]; rfl
    · rw [if_neg (by decide), Bool.true_and]
      by_cases h2 : u.length = s.length
      · rw [if_pos (by rw [h2]), decide_eq_true h2, Bool.true_or, Bool.true_or]; rfl
      · rw [if_neg (fun z => h2 ((nI_eq (by omega) (by omega)).mp z).symm), decide_eq_false h2, Bool.false_or, nI_add, show nI (b + u.length) - (1 : Int32) = nI (b + u.length - 1) from pk_sub (b := 1) (by omega), if_pos h.a11, if_pos (h.wx (by omega)), h.vl (by omega), show b + u.length - 1 = b + (u.length - 1) by omega, show mu A M (b + (u.length - 1)) = _ from hu _ (by omega), nI_add, if_pos (h.wx (by omega)), h.vl (by omega), show mu A M (a + u.length) = _ from hs _ (by omega)]
        by_cases h3 : g u (u.length - 1) = 47
        · rw [if_pos (show (g u (u.length - 1)).toInt64 = (47 : Int64) from (cq 47 (by decide)).mpr h3), decide_eq_true h3, Bool.true_or]; rfl
        · rw [if_neg (show ¬ (g u (u.length - 1)).toInt64 = (47 : Int64) from fun z => h3 ((cq 47 (by decide)).mp z)), decide_eq_false h3, Bool.false_or]
          by_cases h4 : g s u.length = 47
          · rw [if_pos (show (g s u.length).toInt64 = (47 : Int64) from (cq 47 (by decide)).mpr h4), decide_eq_true h4]; rfl
          · rw [if_neg (show ¬ (g s u.length).toInt64 = (47 : Int64) from fun z => h4 ((cq 47 (by decide)).mp z)), decide_eq_false h4]; rfl
  · rw [if_pos (nI_lt (by omega) (by omega)), decide_eq_false h1, Bool.false_and, Bool.false_and]; rfl
abbrev oP (M : Nat) : Nat → Prop := fun q => q = M + 1
theorem Ms.eq {B : Hp} {P : Nat → Prop} (h : Ms A M) (e : Eqx P A B) (hP : ¬ P M) : Ms B M := ⟨by rw [e.2.1]; exact h.1, by rw [e.R hP]; exact h.2.1, by rw [e.2.1]; exact h.2.2⟩
theorem Ms.copies (h : Ms A M) {f n t : Nat} (hf : f + n ≤ 9000) (ht : t + n ≤ 9000) (hd : f + n ≤ t ∨ t + n ≤ f ∨ f = t) : ∃ B, f_X9_copies A M (nI f) (nI n) (nI t) = some B ∧ Eqx (oP M) A B ∧ ∀ k, mu B M k = if t ≤ k ∧ k < t + n then mu A M (f + (k - t)) else mu A M k := by
  have L : ∀ e i fu C, i + e = n → e < fu → Eqx (oP M) A C → (∀ k, mu C M k = if t ≤ k ∧ k < t + i then mu A M (f + (k - t)) else mu A M k) → ∃ B, k_X9_copies_3 M (nI f) (nI n) (nI t) fu C (nI i) = some B ∧ Eqx (oP M) A B ∧ ∀ k, mu B M k = if t ≤ k ∧ k < t + n then mu A M (f + (k - t)) else mu A M k := by
    intro e
    induction e with
    | zero =>
      intro i fu C h1 h2 h3 h4
      obtain ⟨fu, rfl⟩ : ∃ f, fu = f + 1 := ⟨fu - 1, by omega⟩
      have : i = n := by omega
      subst this
      refine ⟨C, ?_, h3, h4⟩
      show k_X9_copies_3s M _ _ _ _ _ _ = _
      unfold k_X9_copies_3s
      rw [if_pos Int32.le_rfl]
    | succ e ih =>
      intro i fu C h1 h2 h3 h4
      obtain ⟨fu, rfl⟩ : ∃ f, fu = f + 1 := ⟨fu - 1, by omega⟩
      have hC : Ms C M := h.eq h3 (show ¬ M = M + 1 by omega)
      have hv : mu C M (f + i) = mu A M (f + i) := by
        rw [h4, if_neg (by omega)]
      obtain ⟨B, e1, e2, e3⟩ := ih (i + 1) fu (hsL C 1035 (M + 1) (t + i) (mu A M (f + i))) (by omega) (by omega) (h3.tr (Eqx.sL rfl)) (fun k => by
        show hgL (hsL C 1035 (M + 1) (t + i) (mu A M (f + i))) 1035 (M + 1) k = _
        rw [hgL_sL]
        by_cases hk : k = t + i
        · rw [if_pos ⟨rfl, rfl, hk⟩, if_pos (by omega), hk, show t + i - t = i by omega]
        · rw [if_neg (fun z => hk z.2.2)]
          show mu C M k = _
          rw [h4]
          by_cases hz : t ≤ k ∧ k < t + i
          · rw [if_pos hz, if_pos (by omega)]
          · rw [if_neg hz, if_neg (by omega)])
      refine ⟨B, ?_, e2, e3⟩
      show k_X9_copies_3s M _ _ _ _ _ _ = _
      unfold k_X9_copies_3s
      rw [if_neg (nI_ge (by omega) (by omega)), nI_add, nI_add, hC.gd (by omega), if_pos (hC.wx (by omega)), hC.vl (by omega), hv, hC.2.1, nI_clamp (by omega), nI_1, e1]
  unfold f_X9_copies
  exact L n 0 FU A (by omega) (by unfold FU; omega) Eqx.rf (fun k => by rw [if_neg (by omega)])
theorem Sg.copied {μ ν : Nat → Int64} {f t n : Nat} (h : Sg μ f s) (hn : n = s.length) (e : ∀ k, ν k = if t ≤ k ∧ k < t + n then μ (f + (k - t)) else μ k) : Sg ν t s := fun i hi => by
  rw [e, if_pos (by omega), show t + i - t = i by omega]; exact h i hi
theorem Ms.begins (h : Ms A M) (hs : Sg (mu A M) a s) (ha : a + s.length ≤ 9000) {W : Nat} {w : List Int32} (hW : hsh A W = (9, w.length)) (hw : ∀ i, i < w.length → hgI A 1033 W i = g w i) (hl : w.length < 1000) : f_X9_begins A M (nI a) (nI s.length) W = some (bI (bgn s w)) := by
  have L : ∀ e i fu (x : Bool), i + e = w.length → e < fu → (x = true → w.length ≤ s.length) → k_X9_begins_16 A M (nI a) W fu (bI x) (nI i) = some (bI (x && decide ((s.take w.length).drop i = w.drop i))) := by
    intro e
    induction e with
    | zero =>
      intro i fu x h1 h2 h3
      obtain ⟨fu, rfl⟩ : ∃ f, fu = f + 1 := ⟨fu - 1, by omega⟩
      show k_X9_begins_16s A M _ _ _ _ _ = _
      unfold k_X9_begins_16s
      rw [hW, if_pos rfl, if_pos (nI_le (show w.length ≤ i by omega) (by omega)), if_pos (bI_Z x)]
      cases x
      · rfl
      · rw [List.drop_of_length_le (l := w) (by omega), List.drop_of_length_le (l := s.take w.length) (by rw [List.length_take]; omega)]; rfl
    | succ e ih =>
      intro i fu x h1 h2 h3
      obtain ⟨fu, rfl⟩ : ∃ f, fu = f + 1 := ⟨fu - 1, by omega⟩
      show k_X9_begins_16s A M _ _ _ _ _ = _
      unfold k_X9_begins_16s k_X9_begins_51
      rw [hW, if_pos rfl, if_neg (nI_ge (show i < w.length by omega) (by omega))]
      cases x
      · rw [if_pos (by rfl), if_pos (bI_Z false)]; rfl
      · have hl2 := h3 rfl
        rw [if_neg (by decide), nI_add, h.gd (by omega), if_pos ((nI_wix (by omega)).mpr (show i < w.length by omega)), h.vl (by omega), show mu A M (a + i) = _ from hs i (by omega), nI_clamp (by omega), hw i (by omega), nI_1, drop_g (s := w) (i := i) (by omega), drop_g (s := s.take w.length) (i := i) (by rw [List.length_take]; omega)]
        have hg : g (s.take w.length) i = g s i := by
          simp only [g, List.getD_eq_getElem?_getD]
          rw [List.getElem?_take_of_lt (by omega)]
        by_cases hq : g s i = g w i
        · rw [if_pos (by rw [hq]), show (1 : Int32) = bI true from rfl, ih (i + 1) fu true (by omega) (by omega) (fun _ => hl2), hg, hq]
          congr 2
          rw [Bool.true_and, Bool.true_and, decide_eq_decide]
          exact ⟨fun z => by rw [z], fun z => (List.cons.inj z).2⟩
        · rw [if_neg (fun z => hq (i64_inj.mp z)), show (0 : Int32) = bI false from rfl, ih (i + 1) fu false (by omega) (by omega) (fun z => by cases z), Bool.false_and, Bool.true_and, hg, decide_eq_false (fun z => hq (List.cons.inj z).1)]
  unfold f_X9_begins k_X9_begins_11 bgn
  rw [hW, if_pos rfl]
  by_cases hq : w.length ≤ s.length
  · rw [if_neg (nI_nlt (show (9, w.length).2 ≤ s.length from hq) (by omega))]
    refine Eq.trans (L w.length 0 FU true (by omega) (by unfold FU; omega) (fun _ => hq)) ?_
    rw [Bool.true_and]; rfl
  · rw [if_pos (nI_lt (show s.length < (9, w.length).2 by show s.length < w.length; omega) (show w.length < _ by omega))]
    refine Eq.trans (L w.length 0 FU false (by omega) (by unfold FU; omega) (fun z => by cases z)) ?_
    rw [Bool.false_and, decide_eq_false (fun z => by have := congrArg List.length z; rw [List.length_take] at this; omega)]
end
