/-! the reference: sending -/
theorem JM.hd {μ ν : Nat → Int64} {v : JV} {ms : List CkV} {n : Nat} (hJ : JM μ v ms n) {h : List Int32} (hν : ∀ k, k ≠ 8 → k < 380 ∨ 2471 ≤ k → ν k = μ k) (h8 : ν 8 = lN h.length) (hs : Sg ν 380 h) (hl : h.length ≤ 2091) : JM ν (jsH v h) ms n := by
  obtain ⟨⟨⟨a0, a1, a2, a3⟩, a4, a5, a7, a8⟩, b, c, d1, d2, ⟨f1, f2⟩, hc0, hl0⟩ := hJ
  exact ⟨⟨⟨(hν 0 (by omega) (by omega)).trans a0, (hν 1 (by omega) (by omega)).trans a1, (hν 2 (by omega) (by omega)).trans a2, (hν 3 (by omega) (by omega)).trans a3⟩, (hν 4 (by omega) (by omega)).trans a4, (hν 5 (by omega) (by omega)).trans a5, (hν 7 (by omega) (by omega)).trans a7, h8⟩, fun j hj => (hν _ (by omega) (by omega)).trans (b j hj), c.congr (hν 6 (by omega) (by omega)) (fun k q1 q2 => hν k (by omega) (by omega)), d1.congr (fun k q1 q2 => hν k (by omega) (by omega)), d2.congr (fun k q1 q2 => hν k (by omega) (by omega)), ⟨hs, hl⟩, fun j hj => (hc0 j hj).congr (fun k q1 q2 => hν k (by omega) (by omega)), hl0⟩
theorem Sg.app {μ ν : Nat → Int64} {a : Nat} {s u : List Int32} (h1 : Sg μ a s) (e : ∀ k, a ≤ k → k < a + s.length → ν k = μ k) (h2 : ∀ i, i < u.length → ν (a + s.length + i) = (g u i).toInt64) : Sg ν a (s ++ u) := by
  intro i hi
  rw [List.length_append] at hi
  by_cases q : i < s.length
  · rw [e _ (by omega) (by omega), h1 i q]
    simp only [g, List.getD_eq_getElem?_getD]
    rw [List.getElem?_append_left q]
  · have := h2 (i - s.length) (by omega)
    rw [show a + s.length + (i - s.length) = a + i by omega] at this
    rw [this]
    simp only [g, List.getD_eq_getElem?_getD]
    rw [List.getElem?_append_right (by omega)]
section
variable {A : Hp} {M : Nat} {v : JV} {ms : List CkV} {n : Nat}
theorem JM.writesSign (h : Ms A M) (hJ : JM (mu A M) v ms n) (c : Int32) (hl : (jH v).length < 2091) : ∃ B, f_X9_writesSign A M c = some B ∧ Eqx (oP M) A B ∧ JM (mu B M) (jsH v (jH v ++ [c])) ms n ∧ ∀ k, 8400 ≤ k → mu B M k = mu A M k := by
  have h8 : mu A M 8 = lN (jH v).length := hJ.1.2.2.2.2
  have e1 : Eqx (oP M) A (hsL A 1035 (M + 1) (380 + (jH v).length) c.toInt64) := Eqx.sL rfl
  have g1 : Ms (hsL A 1035 (M + 1) (380 + (jH v).length) c.toInt64) M := h.set
  have m1 : ∀ k, mu (hsL A 1035 (M + 1) (380 + (jH v).length) c.toInt64) M k = if k = 380 + (jH v).length then c.toInt64 else mu A M k := fun k => by rw [mu_set]
  unfold f_X9_writesSign
  rw [if_pos h.1, if_pos h.a11, if_pos (show wix (8 : Int32) _ from h.wx (i := 8) (by omega)), show hgL A 1035 (hgR A 448 M 0) (8 : Int32).toNatClampNeg = lN (jH v).length from (h.vl (i := 8) (by omega)).trans h8, lN_i, show (380 : Int32) + nI (jH v).length = nI (380 + (jH v).length) from nI_add 380 _, if_pos (h.wx (by omega)), nI_clamp (by omega), h.2.1]
  generalize hsL A 1035 (M + 1) (380 + (jH v).length) c.toInt64 = A1 at *
  rw [if_pos g1.a11, if_pos (show wix (8 : Int32) _ from g1.wx (i := 8) (by omega)), show hgL A1 1035 (hgR A1 448 M 0) (8 : Int32).toNatClampNeg = lN (jH v).length from (g1.vl (i := 8) (by omega)).trans (by rw [m1, if_neg (by omega)]; exact h8), g1.2.1, lN_1, show (8 : Int32).toNatClampNeg = 8 by decide]
  have m2 : ∀ k, mu (hsL A1 1035 (M + 1) 8 (lN ((jH v).length + 1))) M k = if k = 8 then lN ((jH v).length + 1) else if k = 380 + (jH v).length then c.toInt64 else mu A M k := fun k => by rw [mu_set, m1]
  refine ⟨_, rfl, e1.tr (Eqx.sL rfl), hJ.hd (fun k q1 q2 => by rw [m2, if_neg q1, if_neg (by omega)]) (by rw [m2, if_pos rfl, List.length_append]; rfl) (hJ.2.2.2.2.2.1.1.app (fun k q1 q2 => by rw [m2, if_neg (by omega), if_neg (by omega)]) (fun i hi => ?_)) (by rw [List.length_append]; show (jH v).length + 1 ≤ 2091; omega), fun k hk => by rw [m2, if_neg (by omega), if_neg (by omega)]⟩
  have hi : i < 1 := hi
  have : i = 0 := by omega
  subst this
  rw [m2, if_neg (by omega), if_pos (by omega)]
  rfl
theorem JM.writes (h : Ms A M) (hJ : JM (mu A M) v ms n) {a : Nat} {s : List Int32} (hs : Sg (mu A M) a s) (ha : 2500 ≤ a) (hb : a + s.length ≤ 8400) (hl : (jH v).length + s.length ≤ 2091) : ∃ B, f_X9_writes A M (nI a) (nI s.length) = some B ∧ Eqx (oP M) A B ∧ JM (mu B M) (jsH v (jH v ++ s)) ms n ∧ ∀ k, 8400 ≤ k → mu B M k = mu A M k := by
  have h8 : mu A M 8 = lN (jH v).length := hJ.1.2.2.2.2
  obtain ⟨A1, q1, q2, q3⟩ := h.copies (f := a) (n := s.length) (t := 380 + (jH v).length) (by omega) (by omega) (by omega)
  have g1 : Ms A1 M := h.eq q2 (show ¬ M = M + 1 by omega)
  unfold f_X9_writes
  rw [show (8 : Int32) = nI 8 from rfl, h.gd (by omega), h.vl (by omega), h8, lN_i, show (380 : Int32) + nI (jH v).length = nI (380 + (jH v).length) from nI_add 380 _, q1, Option.bind_some, g1.gd (by omega), g1.vl (by omega), show mu A1 M 8 = lN (jH v).length from (by rw [q3, if_neg (by omega)]; exact h8), g1.2.1, nI_l (by omega), lN_add, nI_clamp (by omega)]
  have m2 : ∀ k, mu (hsL A1 1035 (M + 1) 8 (lN ((jH v).length + s.length))) M k = if k = 8 then lN ((jH v).length + s.length) else if 380 + (jH v).length ≤ k ∧ k < 380 + (jH v).length + s.length then mu A M (a + (k - (380 + (jH v).length))) else mu A M k := fun k => by rw [mu_set, q3]
  refine ⟨_, rfl, q2.tr (Eqx.sL rfl), hJ.hd (fun k z1 z2 => by rw [m2, if_neg z1, if_neg (by omega)]) (by rw [m2, if_pos rfl, List.length_append]) (hJ.2.2.2.2.2.1.1.app (fun k z1 z2 => by rw [m2, if_neg (by omega), if_neg (by omega)]) (fun i hi => ?_)) (by rw [List.length_append]; exact hl), fun k hk => by rw [m2, if_neg (by omega), if_neg (by omega)]⟩
  rw [m2, if_neg (by omega), if_pos (by omega), show a + (380 + (jH v).length + i - (380 + (jH v).length)) = a + i by omega]
  exact hs i hi
theorem JM.touch (hJ : JM (mu A M) v ms n) {i : Nat} (hi : i < ms.length) (t : Int64) : JM (mu (hsL A 1035 (M + 1) (2500 + 140 * i + 6) t) M) v (ms.set i (tou (cg ms i) t)) n := by
  obtain ⟨⟨⟨a0, a1, a2, a3⟩, a4, a5, a7, a8⟩, b, c, d1, d2, ⟨f1, f2⟩, hc0, hl0⟩ := hJ
  have lo : ∀ k, k ≠ 2500 + 140 * i + 6 → mu (hsL A 1035 (M + 1) (2500 + 140 * i + 6) t) M k = mu A M k := fun k q => by rw [mu_set, if_neg q]
  refine ⟨⟨⟨(lo 0 (by omega)).trans a0, (lo 1 (by omega)).trans a1, (lo 2 (by omega)).trans a2, (lo 3 (by omega)).trans a3⟩, (lo 4 (by omega)).trans a4, by rw [List.length_set]; exact (lo 5 (by omega)).trans a5, (lo 7 (by omega)).trans a7, (lo 8 (by omega)).trans a8⟩, fun j hj => (lo _ (by omega)).trans (b j hj), c.congr (lo 6 (by omega)) (fun k q1 q2 => lo k (by omega)), d1.congr (fun k q1 q2 => lo k (by omega)), d2.congr (fun k q1 q2 => lo k (by omega)), ⟨f1.congr (fun k q1 q2 => lo k (by omega)), f2⟩, fun j hj => ?_, by rw [List.length_set]; exact hl0⟩
  rw [List.length_set] at hj
  by_cases z : j = i
  · rw [z, show cg (ms.set i (tou (cg ms i) t)) i = tou (cg ms i) t by simp [cg, hi]]
    obtain ⟨⟨x1, x2, x3, x4⟩, ⟨y1, y2, y3, y4⟩, ⟨z1, z2, z3, z4, z5⟩, ⟨s1, s2, s3, s4⟩, l1, l2, l3, l4⟩ := hc0 i hi
    exact ⟨⟨(lo _ (by omega)).trans x1, (lo _ (by omega)).trans x2, (lo _ (by omega)).trans x3, (lo _ (by omega)).trans x4⟩, ⟨(lo _ (by omega)).trans y1, (lo _ (by omega)).trans y2, by rw [mu_set, if_pos rfl]; rfl, (lo _ (by omega)).trans y4⟩, ⟨(lo _ (by omega)).trans z1, (lo _ (by omega)).trans z2, (lo _ (by omega)).trans z3, (lo _ (by omega)).trans z4, (lo _ (by omega)).trans z5⟩, ⟨s1.congr (fun k q1 q2 => lo k (by omega)), s2.congr (fun k q1 q2 => lo k (by omega)), s3.congr (fun k q1 q2 => lo k (by omega)), s4.congr (fun k q1 q2 => lo k (by omega))⟩, l1, l2, l3, l4⟩
  · rw [show cg (ms.set i (tou (cg ms i) t)) j = cg ms j by simp only [cg, List.getD_eq_getElem?_getD]; rw [List.getElem?_set_ne (fun y => z y.symm)]]
    exact (hc0 j hj).congr (fun k q1 q2 => lo k (by omega))
def lstB (ms : List CkV) (o : Option Nat) (c : CkV) : Bool := match o with
  | none => true
  | some l => sntB (cg ms l) c
theorem JM.sentBehind (h : Ms A M) (hJ : JM (mu A M) v ms n) (ho : okl ms) (last : Option Nat) (hlast : ∀ l, last = some l → l < ms.length) (nav sc : Bool) : f_X9_sentBehind A M (oI last) (bI nav) (bI sc) = some (oI (mn sntB ms (fun c => gos v c (crs v) nav sc && lstB ms last c))) := by
  have hm : mu A M 5 = lN ms.length := hJ.1.2.2.1
  have hl := hJ.2.2.2.2.2.2.2
  have hc := hJ.2.2.2.2.2.2.1
  have L : ∀ e i fu o, i + e = ms.length → e < fu → (∀ j, o = some j → j < i) → k_X9_sentBehind_6 A M (oI last) (bI nav) (bI sc) fu (oI o) (nI i) = some (oI (mnD sntB ms (fun c => gos v c (crs v) nav sc && lstB ms last c) e i o)) := by
    intro e
    induction e with
    | zero =>
      intro i fu o h1 h2 h4
      obtain ⟨fu, rfl⟩ : ∃ f, fu = f + 1 := ⟨fu - 1, by omega⟩
      show k_X9_sentBehind_6s A M _ _ _ _ _ _ = _
      unfold k_X9_sentBehind_6s
      rw [show (5 : Int32) = nI 5 from rfl, h.gd (by omega), h.vl (by omega), hm, nI_l (by omega), if_pos ((lN_le (by omega) (by omega)).mpr (by omega))]
      rfl
    | succ e ih =>
      intro i fu o h1 h2 h4
      obtain ⟨fu, rfl⟩ : ∃ f, fu = f + 1 := ⟨fu - 1, by omega⟩
      show k_X9_sentBehind_6s A M _ _ _ _ _ _ = _
      have hk := hc i (by omega)
      have oki := ho _ (cg_mem (show i < ms.length by omega))
      have K : ∀ y : Bool, y = (gos v (cg ms i) (crs v) nav sc && lstB ms last (cg ms i)) → k_X9_sentBehind_58 (k_X9_sentBehind_6 A M (oI last) (bI nav) (bI sc) fu) A M (oI last) (bI nav) (bI sc) (oI o) (nI i) (bI y) = some (oI (mnD sntB ms (fun c => gos v c (crs v) nav sc && lstB ms last c) (e + 1) i o)) := by
        intro y hy
        have st := fun o' => ih (i + 1) fu o' (by omega) (by omega)
        show _ = some (oI (mnD sntB ms (fun c => gos v c (crs v) nav sc && lstB ms last c) e (i + 1) (mnS sntB ms (fun c => gos v c (crs v) nav sc && lstB ms last c) o i)))
        rw [← st _ (mnS_lt h4)]
        unfold k_X9_sentBehind_58 k_X9_sentBehind_92 k_X9_sentBehind_87 k_X9_sentBehind_94 mnS
        rw [nI_1]
        show _ = k_X9_sentBehind_6 A M (oI last) (bI nav) (bI sc) fu (oI (if (gos v (cg ms i) (crs v) nav sc && lstB ms last (cg ms i)) = true then _ else o)) (nI (i + 1))
        rw [← hy]
        cases y
        · rw [if_pos (by rfl), if_neg (by decide)]
        · rw [if_neg (by decide), if_pos rfl]
          cases o with
          | none => rw [if_pos (by decide)]; rfl
          | some j =>
            have hj := h4 j rfl
            rw [if_neg (show ¬ oI (some j) < 0 from nI_pos (by omega)), ck_, Option.bind_some, show f_X9_cookie A (oI (some j)) = _ from ck_ j, Option.bind_some, if_pos h.1, h.isSentAhead hk (hc j (by omega)) (by omega) (by omega) oki.2.2.1 (ho _ (cg_mem (by omega))).2.2.1, Option.bind_some]
            show _ = k_X9_sentBehind_6 A M (oI last) (bI nav) (bI sc) fu (oI (if sntB (cg ms i) (cg ms j) = true then some i else some j)) (nI (i + 1))
            cases sntB (cg ms i) (cg ms j)
            · rw [if_pos (by rfl), if_neg (by decide)]
            · rw [if_neg (by decide), if_pos rfl]; rfl
      unfold k_X9_sentBehind_6s k_X9_sentBehind_57 k_X9_sentBehind_53
      rw [show (5 : Int32) = nI 5 from rfl, h.gd (by omega), h.vl (by omega), hm, nI_l (by omega), if_neg (fun z => by have := (lN_le (by omega) (by omega)).mp z; omega), ck_, Option.bind_some, hJ.isSent h hk (by omega) oki, Option.bind_some]
      cases hb : gos v (cg ms i) (crs v) nav sc
      · rw [if_pos (by rfl)]
        exact K false (by rw [hb]; rfl)
      · rw [if_neg (by decide)]
        cases last with
        | none =>
          rw [if_pos (by decide)]
          exact K true (by rw [hb]; rfl)
        | some l =>
          have hll := hlast l rfl
          rw [if_neg (show ¬ oI (some l) < 0 from nI_pos (by omega)), show f_X9_cookie A (oI (some l)) = _ from ck_ l, Option.bind_some, Option.bind_some, h.isSentAhead (hc l hll) hk (by omega) (by omega) (ho _ (cg_mem hll)).2.2.1 oki.2.2.1, Option.bind_some]
          cases hss : sntB (cg ms l) (cg ms i)
          · rw [if_pos (by rfl)]
            exact K false (by rw [hb]; show false = (true && sntB (cg ms l) (cg ms i)); rw [hss]; rfl)
          · rw [if_neg (by decide)]
            exact K true (by rw [hb]; show true = (true && sntB (cg ms l) (cg ms i)); rw [hss]; rfl)
  unfold f_X9_sentBehind mn
  exact L ms.length 0 FU none (by omega) (by unfold FU; omega) (fun j hj => by cases hj)
end
-- lists that go through the same choice
theorem mn_congr {lt : CkV → CkV → Bool} {L K : List CkV} {ok ok' : CkV → Bool} (hl : L.length = K.length) (h1 : ∀ i, i < L.length → ok (cg L i) = ok' (cg K i)) (h2 : ∀ i j, i < L.length → j < L.length → lt (cg L i) (cg L j) = lt (cg K i) (cg K j)) : mn lt L ok = mn lt K ok' := by
  have D : ∀ d i o, i + d = L.length → (∀ j, o = some j → j < i) → mnD lt L ok d i o = mnD lt K ok' d i o := by
    intro d
    induction d with
    | zero => intro i o _ _; rfl
    | succ d ih =>
      intro i o hi ho
      have e : mnS lt L ok o i = mnS lt K ok' o i := by
        unfold mnS
        rw [h1 i (by omega)]
        cases o with
        | none => rfl
        | some j =>
          have hj := ho j rfl
          show (if ok' (cg K i) = true then (if lt (cg L i) (cg L j) = true then some i else some j) else some j) = (if ok' (cg K i) = true then (if lt (cg K i) (cg K j) = true then some i else some j) else some j)
          rw [h2 i j (by omega) (by omega)]
      show mnD lt L ok d (i + 1) (mnS lt L ok o i) = mnD lt K ok' d (i + 1) (mnS lt K ok' o i)
      rw [← e]
      exact ih (i + 1) _ (by omega) (mnS_lt ho)
  unfold mn
  rw [← hl]
  exact D L.length 0 none (by omega) (fun j hj => by cases hj)
def mkT (P ms : List CkV) (t : Int64) : List CkV := ms.map (fun c => if c ∈ P then tou c t else c)
theorem mkT_len (P ms : List CkV) (t : Int64) : (mkT P ms t).length = ms.length := List.length_map _
theorem mkT_get {P ms : List CkV} {t : Int64} {i : Nat} (hi : i < ms.length) : cg (mkT P ms t) i = if cg ms i ∈ P then tou (cg ms i) t else cg ms i := by
  have e : cg ms i = ms[i] := by simp [cg, hi]
  rw [e]
  simp [cg, mkT, hi]
theorem srl.idx {L : List CkV} (h : srl L) {i j : Nat} (hi : i < L.length) (hj : j < L.length) (e : cS (cg L i) = cS (cg L j)) : i = j := by
  have e1 : cg L i = L[i] := by simp [cg, hi]
  have e2 : cg L j = L[j] := by simp [cg, hj]
  rw [e1, e2] at e
  unfold srl at h
  have h' : (L.map (fun c => cS c)).Pairwise (· ≠ ·) := h
  rw [List.pairwise_map, List.pairwise_iff_getElem] at h'
  rcases Nat.lt_trichotomy i j with q | q | q
  · exact absurd e (h' i j hi hj q)
  · exact q
  · exact absurd e.symm (h' j i hj hi q)
theorem mkT_step {S ms : List CkV} {t : Int64} {i k : Nat} (hs : srl ms) (hi : i < ms.length) (hk : k < S.length) (e : cg ms i = cg S k) : mkT (S.take (k + 1)) ms t = (mkT (S.take k) ms t).set i (tou (cg (mkT (S.take k) ms t) i) t) := by
  apply List.ext_getElem
  · rw [List.length_set, mkT_len, mkT_len]
  · intro j h1 h2
    have hj : j < ms.length := by rw [mkT_len] at h1; exact h1
    have es : S.take (k + 1) = S.take k ++ [cg S k] := by
      rw [List.take_add_one, List.getElem?_eq_getElem hk]
      simp [cg, hk]
    have g1 : (mkT (S.take (k + 1)) ms t)[j] = cg (mkT (S.take (k + 1)) ms t) j := by simp [cg, h1]
    rw [g1, mkT_get hj, List.getElem_set]
    by_cases z : i = j
    · subst z
      rw [if_pos rfl, if_pos (by rw [es, e]; exact List.mem_append_right _ (List.mem_singleton.mpr rfl)), mkT_get hi]
      split <;> rfl
    · rw [if_neg z]
      have g2 : (mkT (S.take k) ms t)[j]'(by rw [mkT_len]; exact hj) = cg (mkT (S.take k) ms t) j := by simp [cg, mkT_len, hj]
      rw [g2, mkT_get hj]
      have : cg ms j ∈ S.take (k + 1) ↔ cg ms j ∈ S.take k := by
        rw [es, List.mem_append, List.mem_singleton]
        refine ⟨fun y => ?_, Or.inl⟩
        rcases y with y | y
        · exact y
        · exact absurd (hs.idx hi hj (by rw [e, y])) z
      by_cases y : cg ms j ∈ S.take k
      · rw [if_pos (this.mpr y), if_pos y]
      · rw [if_neg (fun w => y (this.mp w)), if_neg y]
/-- S: those that are sent, in their order -/
def SnO (S ms : List CkV) (p : CkV → Bool) : Prop := (∀ i j, i < j → j < S.length → sntB (cg S i) (cg S j) = true) ∧ ∀ c, c ∈ S ↔ c ∈ ms ∧ p c = true
theorem SnO.next {S ms : List CkV} {p : CkV → Bool} (h : SnO S ms p) {last : Option Nat} {k : Nat} (hl : (last = none ∧ k = 0) ∨ ∃ l, last = some l ∧ l < ms.length ∧ 1 ≤ k ∧ k ≤ S.length ∧ cg ms l = cg S (k - 1)) : (mn sntB ms (fun c => p c && lstB ms last c) = none ∧ k = S.length) ∨ ∃ i, mn sntB ms (fun c => p c && lstB ms last c) = some i ∧ i < ms.length ∧ k < S.length ∧ cg ms i = cg S k := by
  have irr : ∀ a, sntB a a = false := sntB_StO.1
  have hkl : k ≤ S.length := by
    rcases hl with ⟨-, z⟩ | ⟨l, -, -, -, z, -⟩
    · omega
    · exact z
  -- those that come behind are the rest of S
  have ok : ∀ c ∈ ms, (p c && lstB ms last c) = true ↔ ∃ j, k ≤ j ∧ j < S.length ∧ cg S j = c := by
    intro c hc
    constructor
    · intro q
      rw [Bool.and_eq_true] at q
      obtain ⟨j, hj, ej⟩ := cg_of_mem ((h.2 c).mpr ⟨hc, q.1⟩)
      refine ⟨j, ?_, hj, ej⟩
      rcases hl with ⟨z1, z2⟩ | ⟨l, z1, z2, z3, z4, z5⟩
      · omega
      · rw [z1] at q
        have q2 : sntB (cg ms l) c = true := q.2
        rw [z5, ← ej] at q2
        rcases Nat.lt_trichotomy (k - 1) j with w | w | w
        · omega
        · rw [w, irr] at q2; cases q2
        · have := sntB_StO.2 _ _ _ (h.1 j (k - 1) w (by omega)) q2
          rw [irr] at this; cases this
    · rintro ⟨j, j1, j2, j3⟩
      have hm := (h.2 c).mp (by rw [← j3]; exact cg_mem j2)
      rw [hm.2, Bool.true_and]
      rcases hl with ⟨z1, z2⟩ | ⟨l, z1, z2, z3, z4, z5⟩
      · rw [z1]; rfl
      · rw [z1]
        show sntB (cg ms l) c = true
        rw [z5, ← j3]
        exact h.1 (k - 1) j (by omega) j2
  cases hmn : mn sntB ms (fun c => p c && lstB ms last c) with
  | none =>
    refine Or.inl ⟨rfl, ?_⟩
    by_cases z : k = S.length
    · exact z
    · have hk : k < S.length := by omega
      have hm := ((h.2 (cg S k)).mp (cg_mem hk)).1
      have := mn_none sntB_StO hmn (cg S k) hm
      rw [(ok _ hm).mpr ⟨k, Nat.le_refl _, hk, rfl⟩] at this
      cases this
  | some i =>
    obtain ⟨m1, m2, m3⟩ := mn_some sntB_StO hmn
    obtain ⟨j, j1, j2, j3⟩ := (ok _ (cg_mem m1)).mp m2
    refine Or.inr ⟨i, rfl, m1, by omega, ?_⟩
    by_cases z : j = k
    · rw [← j3, z]
    · have hm := ((h.2 (cg S k)).mp (cg_mem (by omega))).1
      have := m3 (cg S k) hm ((ok _ hm).mpr ⟨k, Nat.le_refl _, by omega, rfl⟩)
      rw [← j3, h.1 k j (by omega) j2] at this
      cases this
