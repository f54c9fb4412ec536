/-! the class: its face, the rest -/
section
variable {A B : Hp} {t t' : List Int32} {v v' : JV}
theorem X_rcvClosed (h : CSt A t v) (hq : (jR v).1 = false) (sc : Int32) : f_X8_receive A 100 sc = some (.inr 2, hmk A 0 0) := by
  unfold f_X8_receive
  rw [if_pos h.1.1, X_need h, hq]; rfl
theorem X_rcv {b : Nat} (h : CSt A t v) (hI : Inv v b) (hb : b ≤ 512) (hq : (jR v).1 = true) (sc : Bool) : ∃ B f0, f_X8_receive A 100 (bI sc) = some (.inl (nI (rcC v (rdCk t) sc f0).1), B) ∧ CE A B ∧ CSt B [] (rcC v (rdCk t) sc f0).2.1 := by
  obtain ⟨⟨a1, a2, a3, a4⟩, ⟨⟨l1, l2⟩, l3, l4⟩, ⟨a5, a6⟩, a7, a8, T, a9, a10⟩ := id hI
  obtain ⟨q1, q2, q3⟩ := a7 hq
  have hok := rok_ck t
  obtain ⟨r, hr⟩ := h.2.2.1
  obtain ⟨f0, hj⟩ := h.2.2.2
  have a80 := a8 0 (by omega)
  obtain ⟨A1, b1, b2, b3, b4⟩ := hr.read h.2.1 (fun z => by have := z.1; omega)
  have c1 := h.rd b4 b2
  obtain ⟨A2, d1, d2, d3⟩ := c1.2.1.empty
  have c2 := c1.tx d3 d2
  have r2 : Rd A2 103 (rdCk t) := b2.eq d3 (fun q z y => by have := z.1; rcases y with y | y <;> omega)
  have j1 : Jr A1 116 v f0 := hj.eq b4 (fun q z y => by have := z.1; have := y.2; omega)
  have j2 : Jr A2 116 v f0 := j1.eq d3 (fun q z y => by have := z.1; rcases y with y | y <;> omega)
  obtain ⟨A3, e1, e2, e3⟩ := j2.accept r2 (by omega) hok.1 a2.1 a3 q1 q2 sc
  have c3 := c2.jr e3 e2
  have ce3 : CE A A3 := ((CE.rd b4).tr (CE.tx d3)).tr (CE.jr e3)
  have base : f_X8_receive A 100 (bI sc) = (if nI (accA v (rdCk t) sc f0).1 = (1 : Int32) then k_X8_receive_45 A3 100 (nI (accA v (rdCk t) sc f0).1) else (if nI (accA v (rdCk t) sc f0).1 = (2 : Int32) then k_X8_receive_45 A3 100 (nI (accA v (rdCk t) sc f0).1) else some (.inl (nI (accA v (rdCk t) sc f0).1), A3))) := by
    unfold f_X8_receive
    rw [if_pos h.1.1, X_need h, hq, if_pos rfl, wtry_l, if_pos h.1.1, h.1.2.2.1, if_pos hr.1.1, h.1.2.1, b1, Option.bind_some, if_pos c1.1.1, c1.1.2.1, if_pos c1.2.1.1.1, d1, Option.bind_some, if_pos c2.1.1, c2.1.2.2.2.1, if_pos j2.1.1.1, c2.1.2.2.1, e1, Option.bind_some]
  have al : (accA v (rdCk t) sc f0).1 ≤ 3 := by
    unfold accA
    split
    · exact Nat.zero_le _
    · split
      · exact Nat.zero_le _
      · split
        · split
          · exact Nat.le_refl _
          · exact Nat.zero_le _
        · split
          · show 2 ≤ 3; omega
          · show 1 ≤ 3; omega
  by_cases hz : (accA v (rdCk t) sc f0).1 = 1 ∨ (accA v (rdCk t) sc f0).1 = 2
  · have rc : rcC v (rdCk t) sc f0 = ((accA v (rdCk t) sc f0).1, jsK (jsC (accA v (rdCk t) sc f0).2.1 (evicT (accA v (rdCk t) sc f0).2.1 (accA v (rdCk t) sc f0).2.2).1) 4 (evicT (accA v (rdCk t) sc f0).2.1 (accA v (rdCk t) sc f0).2.2).2, (accA v (rdCk t) sc f0).2.2) := by unfold rcC; rw [if_pos hz]
    -- what evicting needs
    have hc2 : cau2 v (rdCk t) = 0 := by
      by_cases z : cau2 v (rdCk t) = 0
      · exact z
      · unfold accA at hz; rw [if_pos z] at hz; exact absurd hz (by show ¬ (0 = 1 ∨ 0 = 2); omega)
    have hc4 : cau4 v (rdCk t) sc = 0 := by
      by_cases z : cau4 v (rdCk t) sc = 0
      · exact z
      · unfold accA at hz; rw [if_neg (fun y => y hc2), if_pos z] at hz; exact absurd hz (by show ¬ (0 = 1 ∨ 0 = 2); omega)
    have hx : isExp (rdCk t) (jT v) = false := by
      cases z : isExp (rdCk t) (jT v) with
      | false => rfl
      | true =>
        unfold accA at hz
        rw [if_neg (fun y => y hc2), if_neg (fun y => y hc4), z, if_pos rfl] at hz
        split at hz
        · exact absurd hz (by show ¬ (3 = 1 ∨ 3 = 2); omega)
        · exact absurd hz (by show ¬ (0 = 1 ∨ 0 = 2); omega)
    have h40 : (jR v).2.2.2.length ≤ 40 := hj.2.2.1.2.2.1.2.2.2.2.2.2.1
    obtain ⟨okF, oeF⟩ := mkF_ok hI hb hok hq h40 hc2 hx
    have facts : okl (jC (accA v (rdCk t) sc f0).2.1) ∧ cS (accA v (rdCk t) sc f0).2.2 < 100000 ∧ jP (accA v (rdCk t) sc f0).2.1 = jP v ∧ jL (accA v (rdCk t) sc f0).2.1 = jL v := by
      unfold accA
      rw [if_neg (fun y => y hc2), if_neg (fun y => y hc4), hx, if_neg (by decide)]
      cases hk : knw v (mkF v (rdCk t)) with
      | true =>
        have hp := of_decide_eq_true hk
        have hs := a4 _ (cg_mem hp.1)
        rw [if_pos rfl]
        refine ⟨fun c hc => ?_, (by show cS (cg (jC v) (plc (mkF v (rdCk t)) (jC v))) < 100000; omega), rfl, rfl⟩
        rcases List.mem_or_eq_of_mem_set hc with z | z
        · exact a2.1 c z
        · rw [z]; exact ⟨okF.1, okF.2.1, (by show cS (cg (jC v) (plc (mkF v (rdCk t)) (jC v))) < 100000; omega), okF.2.2.2⟩
      | false =>
        rw [if_neg (by decide)]
        refine ⟨fun c hc => ?_, okF.2.2.1, rfl, rfl⟩
        rcases (List.mem_insertIdx (plc_le _ _)).mp hc with z | z
        · rw [z]; exact okF
        · exact a2.1 c z
    obtain ⟨f1, f2, f3, f4⟩ := facts
    obtain ⟨A4, g1, g2, g3⟩ := e2.evict f2 f1 (by rw [f3]; exact a5) (by rw [f4]; omega) (by rw [f4]; omega)
    refine ⟨A4, f0, ?_, ce3.tr (CE.jr g3), ?_⟩
    · rw [base, rc]
      unfold k_X8_receive_45
      rw [if_pos c3.1.1, c3.1.2.2.2.1, if_pos e2.1.1.1, g1, Option.bind_some]
      rcases hz with z | z
      · rw [if_pos (by rw [z]; rfl)]
      · rw [if_neg (by rw [z]; decide), if_pos (by rw [z]; rfl)]
    · rw [rc]; exact c3.jr g3 g2
  · have rc : rcC v (rdCk t) sc f0 = accA v (rdCk t) sc f0 := by unfold rcC; rw [if_neg hz]
    refine ⟨A3, f0, ?_, ce3, by rw [rc]; exact c3⟩
    rw [base, rc, if_neg (show ¬ nI (accA v (rdCk t) sc f0).1 = (1 : Int32) from fun z => hz (Or.inl ((nI_eq (b := 1) (by omega) (by omega)).mp z))), if_neg (show ¬ nI (accA v (rdCk t) sc f0).1 = (2 : Int32) from fun z => hz (Or.inr ((nI_eq (b := 2) (by omega) (by omega)).mp z)))]
theorem X_rejBad (A : Hp) {d : Int32} (h0 : d ≠ 0) (h1 : d ≠ 1) : f_X8_rejection A 100 d = some (.inr 3, hmk A 0 0) := by
  unfold f_X8_rejection
  rw [if_neg h0, if_neg h1]
theorem X_rej (h : CSt A t v) (hx : jX v < 100) {d : Nat} (hd : d ≤ 1) : f_X8_rejection A 100 (nI d) = some (.inl (nI (if d = 0 then jX v / 10 else jX v)), A) := by
  obtain ⟨f, hj⟩ := h.2.2.2
  unfold f_X8_rejection k_X8_rejection_19
  rw [if_pos h.1.1, h.1.2.2.2.1, if_pos hj.1.1.1, if_pos h.1.1, if_pos hj.1.1.1, hj.2.1.2.1]
  match d, hd with
  | 0, _ => rw [if_pos (by rfl), if_pos (by rfl), if_pos rfl, show (10 : Int32) = nI 10 from rfl, nI_div (by omega) (by omega) (by omega)]
  | 1, _ => rw [if_neg (by decide), if_pos (by rfl), if_neg (by decide), if_neg (by omega)]
theorem X_sndClosed (h : CSt A t v) (hq : (jR v).1 = false) (a b : Int32) : f_X8_send A 100 a b = some (.inr 2, hmk A 0 0) := by
  unfold f_X8_send
  rw [if_pos h.1.1, X_need h, hq]; rfl
theorem X_snd (h : CSt A t v) (ho : okm (jC v)) (hl : (jC v).length ≤ 40) (hq : (jR v).1 = true) (nav sc : Bool) : ∃ B, f_X8_send A 100 (bI nav) (bI sc) = some (.inl (nI (sndS v nav sc).length), B) ∧ CE A B ∧ CSt B t (jsC (jsH v ((sndS v nav sc).foldl wrH [])) (mkT (sndS v nav sc) (jC v) (jT v))) := by
  obtain ⟨f, hj⟩ := h.2.2.2
  obtain ⟨B, b1, b2, b3⟩ := hj.writeHeader ho.1 hl nav sc
  obtain ⟨s1, s2⟩ := snd_class (v := v) (nav := nav) (sc := sc) ho.2.2
  rw [s1, s2] at b2
  refine ⟨B, ?_, CE.jr b3, h.jr b3 b2⟩
  unfold f_X8_send
  rw [if_pos h.1.1, X_need h, hq, if_pos rfl, wtry_l, if_pos h.1.1, h.1.2.2.2.1, if_pos hj.1.1.1, hj.isCrossSite, Option.bind_some, b1, Option.bind_some, sndS_len]
theorem X_hdrBad (h : CSt A t v) {k : Int32} (hk : ¬ 0 ≤ k) : f_X8_headerChar A 100 k = some (.inr 3, hmk A 0 0) := by
  unfold f_X8_headerChar
  rw [if_pos h.1.1, X_idx, if_neg hk]; rfl
theorem X_hdr (h : CSt A t v) {k : Nat} (hk : k < 2 ^ 31) : f_X8_headerChar A 100 (nI k) = some (.inl (g (jH v) k), A) := by
  obtain ⟨f, hj⟩ := h.2.2.2
  have hr : Rw A 521 2091 (jH v) := hj.2.2.1.2.2.2.1
  unfold f_X8_headerChar
  rw [if_pos h.1.1, X_idx, if_pos (nI_pos' hk), wtry_l, if_pos h.1.1, h.1.2.2.2.1, if_pos hj.1.1.1, show hgR A 135 116 0 = 521 from hj.1.1.2.2.2.2.2.2.2.1, if_pos hr.1.1, hr.at hk, Option.bind_some]
theorem X_size (h : CSt A t v) : hgI A 129 116 0 = nI (jC v).length := by
  obtain ⟨f, hj⟩ := h.2.2.2
  obtain ⟨ad, hc⟩ := hj.2.2.2.1
  exact hc.2.2.2.1
theorem X_nck (h : CSt A t v) (i : Int32) : f_X8_needCookie A 100 i = if decide (0 ≤ i ∧ i < nI (jC v).length) then some (.inl (), A) else some (.inr 3, hmk A 0 0) := by
  obtain ⟨f, hj⟩ := h.2.2.2
  unfold f_X8_needCookie
  rw [if_pos h.1.1, h.1.2.2.2.1, if_pos hj.1.1.1, X_size h]
  by_cases z : i < 0
  · rw [if_pos z, decide_eq_false (fun y => absurd z (Int32.not_lt.mpr y.1))]; rfl
  · rw [if_neg z]
    by_cases y : i < nI (jC v).length
    · rw [if_pos y, decide_eq_true ⟨Int32.not_lt.mp z, y⟩]; rfl
    · rw [if_neg y, decide_eq_false (fun x => y x.2)]; rfl
theorem X_lstBad (h : CSt A t v) {i : Int32} (hi : decide (0 ≤ i ∧ i < nI (jC v).length) = false) : f_X8_listed A 100 i = some (.inr 3, hmk A 0 0) := by
  unfold f_X8_listed
  rw [if_pos h.1.1, X_nck h, hi]; rfl
theorem X_lst (h : CSt A t v) {k : Nat} (hk : k < (jC v).length) : ∃ a, f_X8_listed A 100 (nI k) = some (.inl a, A) ∧ Ck A a (cg (jC v) k) := by
  obtain ⟨f, hj⟩ := h.2.2.2
  obtain ⟨ad, hc⟩ := hj.2.2.2.1
  have hl := hc.2.2.2.2.1
  refine ⟨ad k, ?_, hc.2.2.2.2.2.1 k hk⟩
  unfold f_X8_listed
  rw [if_pos h.1.1, X_nck h, lk_in hk hl, if_pos rfl, wtry_l, if_pos h.1.1, h.1.2.2.2.1, if_pos hj.1.1.1, show hgR A 128 116 0 = 117 from hj.1.1.2.1, show hsh A 117 = (13, 41) from hj.1.2.1, if_pos rfl, if_pos ((nI_wix (by omega)).mpr (show k < 41 by omega)), nI_clamp (by omega), show hgR A 1037 117 k = ad k from hc.1 k (by omega)]
theorem X_wouldClosed (h : CSt A t v) (hq : (jR v).1 = false) (i a b : Int32) : f_X8_wouldSend A 100 i a b = some (.inr 2, hmk A 0 0) := by
  unfold f_X8_wouldSend
  rw [if_pos h.1.1, X_need h, hq]; rfl
theorem X_wouldBad (h : CSt A t v) (hq : (jR v).1 = true) {i : Int32} (a b : Int32) (hi : decide (0 ≤ i ∧ i < nI (jC v).length) = false) : f_X8_wouldSend A 100 i a b = some (.inr 3, hmk A 0 0) := by
  unfold f_X8_wouldSend
  rw [if_pos h.1.1, X_need h, hq, if_pos rfl, wtry_l, if_pos h.1.1, X_lstBad h hi]; rfl
theorem X_would (h : CSt A t v) (ho : okm (jC v)) (hq : (jR v).1 = true) {k : Nat} (hk : k < (jC v).length) (nav sc : Bool) : f_X8_wouldSend A 100 (nI k) (bI nav) (bI sc) = some (.inl (bI (gos v (cg (jC v) k) (crs v) nav sc)), A) := by
  obtain ⟨f, hj⟩ := h.2.2.2
  obtain ⟨a, a1, a2⟩ := X_lst h hk
  unfold f_X8_wouldSend
  rw [if_pos h.1.1, X_need h, hq, if_pos rfl, wtry_l, if_pos h.1.1, a1, wtry_l, if_pos h.1.1, h.1.2.2.2.1, if_pos hj.1.1.1, hj.isCrossSite, Option.bind_some, if_pos hj.1.1.1, hj.goes a2 (ho.1 _ (cg_mem hk)), Option.bind_some, if_pos (bI_Z _)]
theorem X_cookies (h : CSt A t v) : f_X8_cookies A 100 = some (nI (jC v).length) := by
  obtain ⟨f, hj⟩ := h.2.2.2
  unfold f_X8_cookies
  rw [if_pos h.1.1, h.1.2.2.2.1, if_pos hj.1.1.1, X_size h]
theorem X_nameBad (h : CSt A t v) {i k : Int32} (hi : decide (0 ≤ i ∧ i < nI (jC v).length) = false ∨ ¬ 0 ≤ k) : f_X8_nameChar A 100 i k = some (.inr 3, hmk A 0 0) := by
  unfold f_X8_nameChar
  rw [if_pos h.1.1, X_idx]
  by_cases z : 0 ≤ k
  · rcases hi with y | y
    · rw [if_pos z, wtry_l, if_pos h.1.1, X_lstBad h y]; rfl
    · exact absurd z y
  · rw [if_neg z]; rfl
theorem X_name (h : CSt A t v) {i k : Nat} (hi : i < (jC v).length) (hk : k < 2 ^ 31) : f_X8_nameChar A 100 (nI i) (nI k) = some (.inl (g (cN (cg (jC v) i)) k), A) := by
  obtain ⟨a, a1, a2⟩ := X_lst h hi
  unfold f_X8_nameChar
  rw [if_pos h.1.1, X_idx, if_pos (nI_pos' hk), wtry_l, if_pos h.1.1, a1, wtry_l, if_pos a2.1.1, a2.1.2.1, if_pos a2.2.2.1.1.1, a2.2.2.1.at hk, Option.bind_some]
theorem X_valueBad (h : CSt A t v) {i k : Int32} (hi : decide (0 ≤ i ∧ i < nI (jC v).length) = false ∨ ¬ 0 ≤ k) : f_X8_valueChar A 100 i k = some (.inr 3, hmk A 0 0) := by
  unfold f_X8_valueChar
  rw [if_pos h.1.1, X_idx]
  by_cases z : 0 ≤ k
  · rcases hi with y | y
    · rw [if_pos z, wtry_l, if_pos h.1.1, X_lstBad h y]; rfl
    · exact absurd z y
  · rw [if_neg z]; rfl
theorem X_value (h : CSt A t v) {i k : Nat} (hi : i < (jC v).length) (hk : k < 2 ^ 31) : f_X8_valueChar A 100 (nI i) (nI k) = some (.inl (g (cV (cg (jC v) i)) k), A) := by
  obtain ⟨a, a1, a2⟩ := X_lst h hi
  unfold f_X8_valueChar
  rw [if_pos h.1.1, X_idx, if_pos (nI_pos' hk), wtry_l, if_pos h.1.1, a1, wtry_l, if_pos a2.1.1, a2.1.2.2.1, if_pos a2.2.2.2.1.1.1, a2.2.2.2.1.at hk, Option.bind_some]
theorem X_domainBad (h : CSt A t v) {i k : Int32} (hi : decide (0 ≤ i ∧ i < nI (jC v).length) = false ∨ ¬ 0 ≤ k) : f_X8_domainChar A 100 i k = some (.inr 3, hmk A 0 0) := by
  unfold f_X8_domainChar
  rw [if_pos h.1.1, X_idx]
  by_cases z : 0 ≤ k
  · rcases hi with y | y
    · rw [if_pos z, wtry_l, if_pos h.1.1, X_lstBad h y]; rfl
    · exact absurd z y
  · rw [if_neg z]; rfl
theorem X_domain (h : CSt A t v) {i k : Nat} (hi : i < (jC v).length) (hk : k < 2 ^ 31) : f_X8_domainChar A 100 (nI i) (nI k) = some (.inl (g (cD (cg (jC v) i)) k), A) := by
  obtain ⟨a, a1, a2⟩ := X_lst h hi
  unfold f_X8_domainChar
  rw [if_pos h.1.1, X_idx, if_pos (nI_pos' hk), wtry_l, if_pos h.1.1, a1, wtry_l, if_pos a2.1.1, a2.1.2.2.2.1, if_pos a2.2.2.2.2.1.1.1, a2.2.2.2.2.1.at hk, Option.bind_some]
theorem X_pathBad (h : CSt A t v) {i k : Int32} (hi : decide (0 ≤ i ∧ i < nI (jC v).length) = false ∨ ¬ 0 ≤ k) : f_X8_pathChar A 100 i k = some (.inr 3, hmk A 0 0) := by
  unfold f_X8_pathChar
  rw [if_pos h.1.1, X_idx]
  by_cases z : 0 ≤ k
  · rcases hi with y | y
    · rw [if_pos z, wtry_l, if_pos h.1.1, X_lstBad h y]; rfl
    · exact absurd z y
  · rw [if_neg z]; rfl
theorem X_path (h : CSt A t v) {i k : Nat} (hi : i < (jC v).length) (hk : k < 2 ^ 31) : f_X8_pathChar A 100 (nI i) (nI k) = some (.inl (g (cP (cg (jC v) i)) k), A) := by
  obtain ⟨a, a1, a2⟩ := X_lst h hi
  unfold f_X8_pathChar
  rw [if_pos h.1.1, X_idx, if_pos (nI_pos' hk), wtry_l, if_pos h.1.1, a1, wtry_l, if_pos a2.1.1, a2.1.2.2.2.2, if_pos a2.2.2.2.2.2.1.1, a2.2.2.2.2.2.at hk, Option.bind_some]
theorem Xt_expiryBad (h : CSt A t v) {i : Int32} (hi : decide (0 ≤ i ∧ i < nI (jC v).length) = false) : f_X8_expiry A 100 i = some (.inr 3, hmk A 0 0) := by
  unfold f_X8_expiry
  rw [if_pos h.1.1, X_lstBad h hi]; rfl
theorem Xt_expiry (h : CSt A t v) {k : Nat} (hk : k < (jC v).length) : f_X8_expiry A 100 (nI k) = some (.inl (cE (cg (jC v) k)), A) := by
  obtain ⟨a, a1, a2⟩ := X_lst h hk
  unfold f_X8_expiry
  rw [if_pos h.1.1, a1, wtry_l, if_pos a2.1.1, a2.2.1.1.1]
theorem Xt_createdBad (h : CSt A t v) {i : Int32} (hi : decide (0 ≤ i ∧ i < nI (jC v).length) = false) : f_X8_created A 100 i = some (.inr 3, hmk A 0 0) := by
  unfold f_X8_created
  rw [if_pos h.1.1, X_lstBad h hi]; rfl
theorem Xt_created (h : CSt A t v) {k : Nat} (hk : k < (jC v).length) : f_X8_created A 100 (nI k) = some (.inl (cC (cg (jC v) k)), A) := by
  obtain ⟨a, a1, a2⟩ := X_lst h hk
  unfold f_X8_created
  rw [if_pos h.1.1, a1, wtry_l, if_pos a2.1.1, a2.2.1.1.2.1]
theorem Xt_accessedBad (h : CSt A t v) {i : Int32} (hi : decide (0 ≤ i ∧ i < nI (jC v).length) = false) : f_X8_accessed A 100 i = some (.inr 3, hmk A 0 0) := by
  unfold f_X8_accessed
  rw [if_pos h.1.1, X_lstBad h hi]; rfl
theorem Xt_accessed (h : CSt A t v) {k : Nat} (hk : k < (jC v).length) : f_X8_accessed A 100 (nI k) = some (.inl (cA (cg (jC v) k)), A) := by
  obtain ⟨a, a1, a2⟩ := X_lst h hk
  unfold f_X8_accessed
  rw [if_pos h.1.1, a1, wtry_l, if_pos a2.1.1, a2.2.1.1.2.2]
theorem Xt_serialBad (h : CSt A t v) {i : Int32} (hi : decide (0 ≤ i ∧ i < nI (jC v).length) = false) : f_X8_serial A 100 i = some (.inr 3, hmk A 0 0) := by
  unfold f_X8_serial
  rw [if_pos h.1.1, X_lstBad h hi]; rfl
theorem Xt_serial (h : CSt A t v) {k : Nat} (hk : k < (jC v).length) : f_X8_serial A 100 (nI k) = some (.inl (nI (cS (cg (jC v) k))), A) := by
  obtain ⟨a, a1, a2⟩ := X_lst h hk
  unfold f_X8_serial
  rw [if_pos h.1.1, a1, wtry_l, if_pos a2.1.1, a2.2.1.2.1]
theorem Xt_isHostOnlyBad (h : CSt A t v) {i : Int32} (hi : decide (0 ≤ i ∧ i < nI (jC v).length) = false) : f_X8_isHostOnly A 100 i = some (.inr 3, hmk A 0 0) := by
  unfold f_X8_isHostOnly
  rw [if_pos h.1.1, X_lstBad h hi]; rfl
theorem Xt_isHostOnly (h : CSt A t v) {k : Nat} (hk : k < (jC v).length) : f_X8_isHostOnly A 100 (nI k) = some (.inl (bI (cH (cg (jC v) k))), A) := by
  obtain ⟨a, a1, a2⟩ := X_lst h hk
  unfold f_X8_isHostOnly
  rw [if_pos h.1.1, a1, wtry_l, if_pos a2.1.1, a2.2.1.2.2.1, if_pos (bI_Z _)]
theorem Xt_isSecureBad (h : CSt A t v) {i : Int32} (hi : decide (0 ≤ i ∧ i < nI (jC v).length) = false) : f_X8_isSecure A 100 i = some (.inr 3, hmk A 0 0) := by
  unfold f_X8_isSecure
  rw [if_pos h.1.1, X_lstBad h hi]; rfl
theorem Xt_isSecure (h : CSt A t v) {k : Nat} (hk : k < (jC v).length) : f_X8_isSecure A 100 (nI k) = some (.inl (bI (cX (cg (jC v) k))), A) := by
  obtain ⟨a, a1, a2⟩ := X_lst h hk
  unfold f_X8_isSecure
  rw [if_pos h.1.1, a1, wtry_l, if_pos a2.1.1, a2.2.1.2.2.2.1, if_pos (bI_Z _)]
theorem Xt_isHttpOnlyBad (h : CSt A t v) {i : Int32} (hi : decide (0 ≤ i ∧ i < nI (jC v).length) = false) : f_X8_isHttpOnly A 100 i = some (.inr 3, hmk A 0 0) := by
  unfold f_X8_isHttpOnly
  rw [if_pos h.1.1, X_lstBad h hi]; rfl
theorem Xt_isHttpOnly (h : CSt A t v) {k : Nat} (hk : k < (jC v).length) : f_X8_isHttpOnly A 100 (nI k) = some (.inl (bI (cO (cg (jC v) k))), A) := by
  obtain ⟨a, a1, a2⟩ := X_lst h hk
  unfold f_X8_isHttpOnly
  rw [if_pos h.1.1, a1, wtry_l, if_pos a2.1.1, a2.2.1.2.2.2.2.1, if_pos (bI_Z _)]
theorem Xt_sameSiteBad (h : CSt A t v) {i : Int32} (hi : decide (0 ≤ i ∧ i < nI (jC v).length) = false) : f_X8_sameSite A 100 i = some (.inr 3, hmk A 0 0) := by
  unfold f_X8_sameSite
  rw [if_pos h.1.1, X_lstBad h hi]; rfl
theorem Xt_sameSite (h : CSt A t v) {k : Nat} (hk : k < (jC v).length) : f_X8_sameSite A 100 (nI k) = some (.inl (nI (cL (cg (jC v) k))), A) := by
  obtain ⟨a, a1, a2⟩ := X_lst h hk
  unfold f_X8_sameSite
  rw [if_pos h.1.1, a1, wtry_l, if_pos a2.1.1, a2.2.1.2.2.2.2.2.1]
theorem Xt_priorityBad (h : CSt A t v) {i : Int32} (hi : decide (0 ≤ i ∧ i < nI (jC v).length) = false) : f_X8_priority A 100 i = some (.inr 3, hmk A 0 0) := by
  unfold f_X8_priority
  rw [if_pos h.1.1, X_lstBad h hi]; rfl
theorem Xt_priority (h : CSt A t v) {k : Nat} (hk : k < (jC v).length) : f_X8_priority A 100 (nI k) = some (.inl (nI (cR (cg (jC v) k))), A) := by
  obtain ⟨a, a1, a2⟩ := X_lst h hk
  unfold f_X8_priority
  rw [if_pos h.1.1, a1, wtry_l, if_pos a2.1.1, a2.2.1.2.2.2.2.2.2]
theorem X_firstBad (h : CSt A t v) (hd : isDom t = false) : f_X8_firstFrom A 100 = some (.inr 1, hmk A 0 0) := by
  have hl := h.2.1.2.2.1
  unfold f_X8_firstFrom
  rw [if_pos h.1.1, h.1.2.1, h.2.1.isDomain (by omega), hd, Option.bind_some, if_pos (by rfl)]
theorem X_first (h : CSt A t v) (ho : okm (jC v)) (hd : isDom t = true) : f_X8_firstFrom A 100 = some (.inl (oI (fnb t (jC v) 0)), A) := by
  have hl := h.2.1.2.2.1
  obtain ⟨f, hj⟩ := h.2.2.2
  obtain ⟨ad, hc⟩ := hj.2.2.2.1
  unfold f_X8_firstFrom
  rw [if_pos h.1.1, h.1.2.1, h.2.1.isDomain (by omega), hd, Option.bind_some, if_neg (by decide), h.1.2.2.2.1, if_pos hj.1.1.1, hc.firstNotBefore hj.1 ho.1 h.2.1 hd, Option.bind_some]
theorem X_rmBad (h : CSt A t v) {i : Int32} (hi : decide (0 ≤ i ∧ i < nI (jC v).length) = false) : f_X8_remove A 100 i = some (.inr 3, hmk A 0 0) := by
  unfold f_X8_remove
  rw [if_pos h.1.1, X_nck h, hi]; rfl
theorem X_rm (h : CSt A t v) {k : Nat} (hk : k < (jC v).length) : ∃ B, f_X8_remove A 100 (nI k) = some (.inl (nI ((jC v).length - 1)), B) ∧ CE A B ∧ CSt B t (jsC v ((jC v).eraseIdx k)) := by
  obtain ⟨f, hj⟩ := h.2.2.2
  have hl := hj.2.2.2.1
  obtain ⟨ad, hc⟩ := hl
  have hl := hc.2.2.2.2.1
  obtain ⟨B, b1, b2, b3⟩ := hj.drop hk
  have cB := h.jr b3 b2
  refine ⟨B, ?_, CE.jr b3, cB⟩
  unfold f_X8_remove
  rw [if_pos h.1.1, X_nck h, lk_in hk hl, if_pos rfl, wtry_l, if_pos h.1.1, h.1.2.2.2.1, if_pos hj.1.1.1, b1, Option.bind_some, if_pos cB.1.1, cB.1.2.2.2.1, if_pos b2.1.1.1, X_size cB, show jC (jsC v ((jC v).eraseIdx k)) = (jC v).eraseIdx k from rfl, List.length_eraseIdx, if_pos hk]
theorem X_clrClosed (h : CSt A t v) (hq : (jR v).1 = false) : f_X8_clearSite A 100 = some (.inr 2, hmk A 0 0) := by
  unfold f_X8_clearSite
  rw [if_pos h.1.1, X_need h, hq]; rfl
theorem X_clr (h : CSt A t v) (hq : (jR v).1 = true) : ∃ B, f_X8_clearSite A 100 = some (.inl (nI ((jC v).length - (flt (fun c => sameSt (jU v) (cD c) (jR v).2.2.1) (jC v)).length)), B) ∧ CE A B ∧ CSt B t (jsC v (flt (fun c => sameSt (jU v) (cD c) (jR v).2.2.1) (jC v))) := by
  obtain ⟨f, hj⟩ := h.2.2.2
  have hA : Ad A 516 (jR v) := hj.2.2.1.2.2.1
  have hr : Rw A 517 30 (jR v).2.2.1 := hA.2.2.2.1
  have hl := hr.2.2.1
  obtain ⟨B, b1, b2, b3⟩ := hj.dropSite hr (by omega) (fun z => by rcases z with z | z <;> omega) (fun z => by rcases z with z | z <;> omega)
  refine ⟨B, ?_, CE.jr b3, h.jr b3 b2⟩
  unfold f_X8_clearSite
  rw [if_pos h.1.1, X_need h, hq, if_pos rfl, wtry_l, if_pos h.1.1, h.1.2.2.2.1, if_pos hj.1.1.1, show hgR A 134 116 0 = 516 from hj.1.1.2.2.2.2.2.2.1, if_pos hA.1.1, show hgR A 0 516 0 = 517 from hA.1.2.1, b1, Option.bind_some]
theorem X_end (h : CSt A t v) : ∃ B, f_X8_endSession A 100 = some (nI ((jC v).length - (flt (fun c => decide (cE c = -1)) (jC v)).length), B) ∧ CE A B ∧ CSt B t (jsC v (flt (fun c => decide (cE c = -1)) (jC v))) := by
  obtain ⟨f, hj⟩ := h.2.2.2
  obtain ⟨B, b1, b2, b3⟩ := hj.dropSession
  refine ⟨B, ?_, CE.jr b3, h.jr b3 b2⟩
  unfold f_X8_endSession
  rw [if_pos h.1.1, h.1.2.2.2.1, if_pos hj.1.1.1, b1, Option.bind_some]
theorem X_advBad (A : Hp) {s : Int32} (hs : ¬ 0 ≤ s) : f_X8_advance A 100 s = some (.inr 1, hmk A 0 0) := by
  unfold f_X8_advance
  rw [if_neg hs]
theorem X_adv (h : CSt A t v) {s : Nat} (hs : s < 2 ^ 31) : ∃ B, f_X8_advance A 100 (nI s) = some (.inl (nI ((jC v).length - (flt (goB (jT v + (nI s).toInt64)) (jC v)).length)), B) ∧ CE A B ∧ CSt B t (jsK (jsC (jsT v (jT v + (nI s).toInt64)) (flt (goB (jT v + (nI s).toInt64)) (jC v))) 3 ((jC v).length - (flt (goB (jT v + (nI s).toInt64)) (jC v)).length)) := by
  obtain ⟨f, hj⟩ := h.2.2.2
  obtain ⟨B, b1, b2, b3⟩ := hj.pass (nI s)
  refine ⟨B, ?_, CE.jr b3, h.jr b3 b2⟩
  unfold f_X8_advance
  rw [if_pos (nI_pos' hs), if_pos h.1.1, h.1.2.2.2.1, if_pos hj.1.1.1, b1, Option.bind_some]
theorem X_time (h : CSt A t v) : f_X8_time A 100 = some (jT v) := by
  obtain ⟨f, hj⟩ := h.2.2.2
  unfold f_X8_time
  rw [if_pos h.1.1, h.1.2.2.2.1, if_pos hj.1.1.1, hj.2.1.2.2]
theorem X_next (h : CSt A t v) : f_X8_nextExpiry A 100 = some ((jC v).foldl eaS (-1)) := by
  obtain ⟨f, hj⟩ := h.2.2.2
  obtain ⟨ad, hc⟩ := hj.2.2.2.1
  unfold f_X8_nextExpiry
  rw [if_pos h.1.1, h.1.2.2.2.1, if_pos hj.1.1.1, hc.earliest hj.1, Option.bind_some]
theorem X_limBad (A : Hp) {l : Int32} (m : Int32) (hl : decide (0 ≤ l ∧ l < nI 2) = false) : f_X8_setLimit A 100 l m = some (.inr 3, hmk A 0 0) := by
  unfold f_X8_setLimit
  by_cases z : l < 0
  · rw [if_pos z]
  · rw [if_neg z, if_neg (fun y => by have q := decide_eq_true (show 0 ≤ l ∧ l < nI 2 from ⟨Int32.not_lt.mp z, y⟩); rw [hl] at q; cases q)]
theorem X_limBad2 (A : Hp) {l m : Int32} (hl : decide (0 ≤ l ∧ l < nI 2) = true) (hm : (decide (nI 1 ≤ m) && decide (m ≤ nI 40)) = false) : f_X8_setLimit A 100 l m = some (.inr 1, hmk A 0 0) := by
  have hl := of_decide_eq_true hl
  unfold f_X8_setLimit
  rw [if_neg (Int32.not_lt.mpr hl.1), if_pos (show l < 2 from hl.2)]
  by_cases z : m < 1
  · rw [if_pos z]
  · rw [if_neg z, if_neg (fun y => by
      rw [decide_eq_true (show nI 1 ≤ m from Int32.not_lt.mp z), decide_eq_true (show m ≤ nI 40 from y)] at hm
      cases hm)]
theorem X_lim (h : CSt A t v) {l m : Nat} (hl : l < 2) (hm : 1 ≤ m ∧ m ≤ 40) : ∃ B, f_X8_setLimit A 100 (nI l) (nI m) = some (.inl (nI (jL v l)), B) ∧ CE A B ∧ CSt B t (jsL v l m) := by
  obtain ⟨f, hj⟩ := h.2.2.2
  have e : Eqx (fun q => q = 523) A (hsI A 1034 523 l (nI m)) := Eqx.sI rfl
  have m1 : Eqx (jrP 116) A (hsI A 1034 523 l (nI m)) := e.mo (fun q z => ⟨by omega, by omega⟩)
  have jB : Jr (hsI A 1034 523 l (nI m)) 116 (jsL v l m) f := by
    obtain ⟨h1, h2, ⟨a1, a2, a3, a4, a5, a6⟩, ⟨ad, h4⟩, h5⟩ := id hj
    refine ⟨h1.eq e (by omega), h2.eq e (by omega), ⟨a1.eq e (fun q z => by have := z.2; omega), a2.eq e (fun q z => by have := z.2; omega), a3.eq e (fun q z => by have := z.2; omega), a4.eq e (by omega) (by omega), fun i hi => ?_, fun i hi => by rw [e.I (by omega)]; exact a6 i hi⟩, ⟨ad, h4.eq e (fun q z1 z2 => by omega)⟩, h5.eq e (fun q z => by have := z.2; omega)⟩
    show hgI (hsI A 1034 523 l (nI m)) 1034 523 i = nI (if i = l then m else jL v i)
    rw [hgI_sI]
    by_cases z : i = l
    · rw [if_pos ⟨rfl, rfl, z⟩, if_pos z]
    · rw [if_neg (fun y => z y.2.2), if_neg z]; exact a5 i hi
  refine ⟨_, ?_, CE.jr m1, h.jr m1 jB⟩
  unfold f_X8_setLimit
  rw [if_neg (nI_pos (by omega)), if_pos (show nI l < 2 from nI_lt (b := 2) hl (by omega)), if_neg (show ¬ nI m < 1 from nI_nlt (b := 1) hm.1 (by omega)), if_pos (show nI m ≤ 40 from nI_le (b := 40) hm.2 (by omega)), if_pos h.1.1, h.1.2.2.2.1, if_pos hj.1.1.1, show hgR A 136 116 0 = 523 from hj.1.1.2.2.2.2.2.2.2.2.1, show hsh A 523 = (10, 2) from hj.1.2.2.2.1, if_pos rfl, if_pos ((nI_wix (by omega)).mpr hl), nI_clamp (by omega), show hgI A 1034 523 l = nI (jL v l) from hj.2.2.1.2.2.2.2.1 l hl]
theorem X_polBad (A : Hp) {l : Int32} (hl : decide (0 ≤ l ∧ l < nI 4) = false) : f_X8_setPolicy A 100 l = some (.inr 1, hmk A 0 0) := by
  unfold f_X8_setPolicy
  by_cases z : l < 0
  · rw [if_pos z]
  · rw [if_neg z, if_neg (fun y => by have q := decide_eq_true (show 0 ≤ l ∧ l < nI 4 from ⟨Int32.not_lt.mp z, y⟩); rw [hl] at q; cases q)]
theorem X_pol (h : CSt A t v) {l : Nat} (hl : l < 4) : ∃ B, f_X8_setPolicy A 100 (nI l) = some (.inl (nI (jP v)), B) ∧ CE A B ∧ CSt B t (jsP v l) := by
  obtain ⟨f, hj⟩ := h.2.2.2
  have e : Eqx (fun q => q = 116) A (hsI A 138 116 0 (nI l)) := Eqx.sI rfl
  have m1 : Eqx (jrP 116) A (hsI A 138 116 0 (nI l)) := e.mo (fun q z => ⟨by omega, by omega⟩)
  have jB : Jr (hsI A 138 116 0 (nI l)) 116 (jsP v l) f := by
    obtain ⟨h1, h2, h3, ⟨ad, h4⟩, h5⟩ := id hj
    have hc : ∀ i, i < 41 → ∀ q, ckP (ad i) q → ¬ q = 116 := fun i hi q z => by
      obtain ⟨p, p1, p2⟩ := h4.2.1 i hi
      have := z.1
      omega
    refine ⟨h1, ⟨by rw [hgI_sI, if_pos ⟨rfl, rfl, rfl⟩]; rfl, by rw [hgI_sI, if_neg (by omega)]; exact h2.2.1, h2.2.2⟩, h3.eq e (fun q z1 z2 => by omega), ⟨ad, h4.1, h4.2.1, h4.2.2.1, by rw [hgI_sI, if_neg (by omega)]; exact h4.2.2.2.1, h4.2.2.2.2.1, fun i hi => (h4.2.2.2.2.2.1 i hi).eq e (hc i (by have := h4.2.2.2.2.1; have hi : i < (jC v).length := hi; omega)), fun i hi => by obtain ⟨x, hx⟩ := h4.2.2.2.2.2.2 i hi; exact ⟨x, hx.eq e (hc i hi)⟩⟩, h5.eq e (fun q z => by have := z.1; omega)⟩
  refine ⟨_, ?_, CE.jr m1, h.jr m1 jB⟩
  unfold f_X8_setPolicy
  rw [if_neg (nI_pos (by omega)), if_pos (show nI l < 4 from nI_lt (b := 4) hl (by omega)), if_pos h.1.1, h.1.2.2.2.1, if_pos hj.1.1.1, hj.2.1.1]
theorem X_vic (h : CSt A t v) (ho : okm (jC v)) (hp : jP v ≤ 3) : f_X8_victim A 100 = some (oI (vic (jP v) (jC v) (spB none))) := by
  obtain ⟨f, hj⟩ := h.2.2.2
  obtain ⟨ad, hc⟩ := hj.2.2.2.1
  unfold f_X8_victim
  rw [if_pos h.1.1, h.1.2.2.2.1, if_pos hj.1.1.1, show f_X4_victimOfAll A 116 (-1 : Int32) = _ from hc.victimOfAll hj.1 hj.2.1 ho.1 hp (s := none) (fun m hm => by cases hm), Option.bind_some]
theorem X_cntBad (A : Hp) {l : Int32} (hl : decide (0 ≤ l ∧ l < nI 7) = false) : f_X8_count A 100 l = some (.inr 3, hmk A 0 0) := by
  unfold f_X8_count
  by_cases z : l < 0
  · rw [if_pos z]
  · rw [if_neg z, if_neg (fun y => by have q := decide_eq_true (show 0 ≤ l ∧ l < nI 7 from ⟨Int32.not_lt.mp z, y⟩); rw [hl] at q; cases q)]
theorem X_cnt (h : CSt A t v) {l : Nat} (hl : l < 7) : f_X8_count A 100 (nI l) = some (.inl (nI (jK v l)), A) := by
  obtain ⟨f, hj⟩ := h.2.2.2
  unfold f_X8_count
  rw [if_neg (nI_pos (by omega)), if_pos (show nI l < 7 from nI_lt (b := 7) hl (by omega)), if_pos h.1.1, h.1.2.2.2.1, if_pos hj.1.1.1, show hgR A 137 116 0 = 524 from hj.1.1.2.2.2.2.2.2.2.2.2, show hsh A 524 = (10, 7) from hj.1.2.2.2.2, if_pos rfl, if_pos ((nI_wix (by omega)).mpr hl), nI_clamp (by omega), show hgI A 1034 524 l = nI (jK v l) from hj.2.2.1.2.2.2.2.2 l hl]
theorem X_mix (h : CSt A t v) : f_X8_fingerprint A 100 = some (mixJ v) := by
  obtain ⟨f, hj⟩ := h.2.2.2
  unfold f_X8_fingerprint
  rw [if_pos h.1.1, h.1.2.2.2.1, if_pos hj.1.1.1, hj.mix, Option.bind_some]
theorem X_slot (A : Hp) (l : Int32) : f_X8_needSlot A 100 l = if decide (0 ≤ l ∧ l < nI 2) then some (.inl (), A) else some (.inr 3, hmk A 0 0) := by
  unfold f_X8_needSlot
  by_cases z : l < 0
  · rw [if_pos z, decide_eq_false (fun y => absurd z (Int32.not_lt.mpr y.1))]; rfl
  · rw [if_neg z]
    by_cases y : l < nI 2
    · rw [if_pos (show l < 2 from y), decide_eq_true ⟨Int32.not_lt.mp z, y⟩]; rfl
    · rw [if_neg (show ¬ l < 2 from y), decide_eq_false (fun x => y x.2)]; rfl
theorem X_savBad (h : CSt A t v) {l : Int32} (hl : decide (0 ≤ l ∧ l < nI 2) = false) : f_X8_save A 100 l = some (.inr 3, hmk A 0 0) := by
  unfold f_X8_save
  rw [if_pos h.1.1, X_slot, hl]; rfl
theorem X_resBad (h : CSt A t v) {l : Int32} (hl : decide (0 ≤ l ∧ l < nI 2) = false) : f_X8_restore A 100 l = some (.inr 3, hmk A 0 0) := by
  unfold f_X8_restore
  rw [if_pos h.1.1, X_slot, hl]; rfl
theorem X_resNone (h : CSt A t v) {s : Nat} (hs : s < 2) (hz : hgR A 1038 525 s = 0) : f_X8_restore A 100 (nI s) = some (.inr 2, hmk A 0 0) := by
  unfold f_X8_restore
  rw [if_pos h.1.1, X_slot, lk_in hs (by omega), if_pos rfl, wtry_l, if_pos h.1.1, h.1.2.2.2.2.1, h.1.2.2.2.2.2, if_pos rfl, if_pos ((nI_wix (by omega)).mpr (show s < 2 from hs)), nI_clamp (by omega), if_pos hz]
theorem X_res (h : CSt A t v) {s q : Nat} {w : JV} {f' : CkV} (hs : s < 2) (hz : hgR A 1038 525 s = q) (hq : 550 ≤ q) (hj' : Jr A q w f') : ∃ B, f_X8_restore A 100 (nI s) = some (.inl (nI (jC w).length), B) ∧ CE A B ∧ CSt B t w := by
  obtain ⟨f, hj⟩ := h.2.2.2
  obtain ⟨B, b1, b2, b3, b4⟩ := hj.become hj' (by omega)
  have cB := h.jr b4 b2
  refine ⟨B, ?_, CE.jr b4, cB⟩
  unfold f_X8_restore
  rw [if_pos h.1.1, X_slot, lk_in hs (by omega), if_pos rfl, wtry_l, if_pos h.1.1, h.1.2.2.2.2.1, h.1.2.2.2.2.2, if_pos rfl, if_pos ((nI_wix (by omega)).mpr (show s < 2 from hs)), nI_clamp (by omega), hz, if_neg (show ¬ q = 0 by omega), h.1.2.2.2.1, if_pos hj.1.1.1, b1, Option.bind_some, if_pos cB.1.1, cB.1.2.2.2.1, if_pos b2.1.1.1, X_size cB]
/-- kept before: the old jar becomes this one -/
theorem X_sav1 (h : CSt A t v) {s q : Nat} {w : JV} {f' : CkV} (hs : s < 2) (hz : hgR A 1038 525 s = q) (hq : 550 ≤ q) (hj' : Jr A q w f') : ∃ B, f_X8_save A 100 (nI s) = some (.inl (nI (jC v).length), B) ∧ Eqx (jrP q) A B ∧ Jr B q v f' ∧ CSt B t v := by
  obtain ⟨f, hj⟩ := h.2.2.2
  obtain ⟨B, b1, b2, b3, b4⟩ := hj'.become hj (by omega)
  have hsz : hgI B 129 q 0 = nI (jC v).length := by
    obtain ⟨ad, hc⟩ := b2.2.2.2.1
    exact hc.2.2.2.1
  refine ⟨B, ?_, b4, b2, h.ew b4.ew (fun x z1 z2 y => by have := y.1; omega)⟩
  unfold f_X8_save
  rw [if_pos h.1.1, X_slot, lk_in hs (by omega), if_pos rfl, wtry_l, if_pos h.1.1, h.1.2.2.2.2.1, h.1.2.2.2.2.2, if_pos rfl, if_pos ((nI_wix (by omega)).mpr (show s < 2 from hs)), show hgR A 1038 525 (nI s).toNatClampNeg = q from (by rw [nI_clamp (by omega)]; exact hz), if_neg (show ¬ q = 0 by omega)]
  unfold k_X8_save_31
  rw [if_pos h.1.1, if_pos hj'.1.1.1, h.1.2.2.2.1, b1, Option.bind_some, if_pos b2.1.1.1, hsz]
/-- for the first time: a new jar -/
theorem X_sav0 (h : CSt A t v) (hA : 550 ≤ hsz A) {s : Nat} (hs : s < 2) (hz : hgR A 1038 525 s = 0) : ∃ B f', f_X8_save A 100 (nI s) = some (.inl (nI (jC v).length), B) ∧ Ew (fun q => q = 525 ∨ hsz A ≤ q) A B ∧ hsz B = hsz A + 409 ∧ hsh B 525 = (14, 2) ∧ (∀ i, hgR B 1038 525 i = if i = s then hsz A else hgR A 1038 525 i) ∧ Jr B (hsz A) v f' ∧ CSt B t v := by
  obtain ⟨B1, b1, b2, b3, b4⟩ := Jr.init (A := A)
  have e2 : Ew (fun q => q = 525) B1 (hsR B1 1038 525 s (hsz A)) := ea_R.ew
  have j2 := b2.ew e2 (fun q z y => by have := z.1; omega)
  have cB1 := h.ew b3 (fun x z1 z2 y => by omega)
  have cC : CSt (hsR B1 1038 525 s (hsz A)) t v := by
    obtain ⟨⟨c1, c2, c3, c4, c5, c6⟩, ht, ⟨r, hr⟩, f, hf⟩ := cB1
    exact ⟨⟨c1, by rw [e2.R (by omega)]; exact c2, by rw [e2.R (by omega)]; exact c3, by rw [e2.R (by omega)]; exact c4, by rw [e2.R (by omega)]; exact c5, c6⟩, ht.ew e2 (by omega) (by omega), ⟨r, hr.ew e2 (fun q z y => by have := z.2; omega)⟩, f, hf.ew e2 (fun q z y => by have := z.2; omega)⟩
  obtain ⟨f, hj⟩ := cC.2.2.2
  obtain ⟨C, c1, c2, c3, c4⟩ := j2.become hj (by omega)
  have hsz9 : hgI C 129 (hsz A) 0 = nI (jC v).length := by
    obtain ⟨ad, hc⟩ := c2.2.2.2.1
    exact hc.2.2.2.1
  have n5 : ¬ jrP (hsz A) 525 := fun y => by have := y.1; omega
  refine ⟨C, ck0, ?_, ((b3.mo (fun q z => Or.inr z)).tr (e2.mo (fun q z => Or.inl z))).tr (c4.ew.mo (fun q z => Or.inr z.1)), by rw [c4.2.2]; exact b4, by rw [c4.2.1]; exact cC.1.2.2.2.2.2, fun i => ?_, c2, cC.ew c4.ew (fun x z1 z2 y => by have := y.1; omega)⟩
  · have s5 : hsh B1 525 = (14, 2) := cB1.1.2.2.2.2.2
    unfold f_X8_save
    rw [if_pos h.1.1, X_slot, lk_in hs (by omega), if_pos rfl, wtry_l, if_pos h.1.1, h.1.2.2.2.2.1, h.1.2.2.2.2.2, if_pos rfl, if_pos ((nI_wix (by omega)).mpr (show s < 2 from hs)), show hgR A 1038 525 (nI s).toNatClampNeg = 0 from (by rw [nI_clamp (by omega)]; exact hz), if_pos rfl, if_pos (by rw [hsh_mk, if_pos rfl]), b1, Option.bind_some, if_pos cB1.1.1, cB1.1.2.2.2.2.1, s5, if_pos rfl, if_pos b2.1.1.1, if_pos ((nI_wix (by omega)).mpr (show s < 2 from hs)), nI_clamp (by omega)]
    unfold k_X8_save_31
    rw [if_pos cC.1.1, if_pos j2.1.1.1, cC.1.2.2.2.1, c1, Option.bind_some, if_pos c2.1.1.1, hsz9]
  · rw [c4.R n5, hgR_sR]
    by_cases z : i = s
    · rw [if_pos ⟨rfl, rfl, z⟩, if_pos z]
    · rw [if_neg (fun y => z y.2.2), if_neg z]; exact b3.R (by omega) 1038 i
end
