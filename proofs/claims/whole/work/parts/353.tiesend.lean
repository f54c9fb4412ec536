/-! sending: class and reference -/
theorem fold_take {S : List CkV} {k : Nat} (hk : k < S.length) : (S.take (k + 1)).foldl wrH [] = wrH ((S.take k).foldl wrH []) (cg S k) := by
  rw [List.take_add_one, List.getElem?_eq_getElem hk, List.foldl_append]
  simp [cg, hk]
theorem wrH_ne (h : List Int32) (c : CkV) : wrH h c ≠ [] := by
  unfold wrH
  intro z
  have := congrArg List.length z
  simp only [List.length_append, List.length_cons, List.length_nil] at this
  omega
theorem wrH_e {h : List Int32} (hh : h = []) (c : CkV) : wrH h c = h ++ cN c ++ [61] ++ cV c := by unfold wrH; rw [if_pos hh]
theorem wrH_n {h : List Int32} (hh : ¬ h = []) (c : CkV) : wrH h c = h ++ [59, 32] ++ cN c ++ [61] ++ cV c := by unfold wrH; rw [if_neg hh]
theorem wrH_tou (h : List Int32) (c : CkV) (t : Int64) : wrH h (tou c t) = wrH h c := rfl
theorem okl.tchd {P ms : List CkV} (h : okl ms) (t : Int64) : okl (mkT P ms t) := by
  intro c hc
  obtain ⟨d, d1, d2⟩ := List.mem_map.mp hc
  rw [← d2]
  split
  · exact h d d1
  · exact h d d1
section
variable {A : Hp} {M : Nat} {v : JV} {ms : List CkV} {n : Nat} {nav sc : Bool}
theorem JM.send63 (rec : Hp → Int32 → Int32 → Option (Int32 × Hp)) {h' : List Int32} {i k : Nat} (h : Ms A M) (hJ : JM (mu A M) (jsH v h') ms n) (hi : i < ms.length) (hl : h'.length + 49 ≤ 2091) : ∃ B, k_X9_send_63 rec A M (bI nav) (bI sc) (nI k) (nI i) = ((f_X9_sentBehind B M (nI i) (bI nav) (bI sc)).bind fun x => rec B (nI (k + 1)) x) ∧ Ms B M ∧ Eqx (oP M) A B ∧ JM (mu B M) (jsH v (h' ++ cN (cg ms i) ++ [61] ++ cV (cg ms i))) (ms.set i (tou (cg ms i) (jT v))) n ∧ ∀ k, 8400 ≤ k → mu B M k = mu A M k := by
  have hne : ¬ oP M M := show ¬ M = M + 1 by omega
  have hml := hJ.2.2.2.2.2.2.2
  have hc := hJ.2.2.2.2.2.2.1 i hi
  have lc := hc.2.2.2.2
  obtain ⟨A1, a1, a2, a3, a4⟩ := hJ.writes h (a := 2500 + 140 * i + 14) hc.2.2.2.1.1 (by omega) (by omega) (by show h'.length + _ ≤ 2091; omega)
  have g1 : Ms A1 M := h.eq a2 hne
  obtain ⟨A2, b1, b2, b3, b4⟩ := JM.writesSign (v := jsH v (h' ++ cN (cg ms i))) g1 a3 61 (by show (h' ++ cN (cg ms i)).length < 2091; rw [List.length_append]; omega)
  have g2 : Ms A2 M := g1.eq b2 hne
  have hc2 := b3.2.2.2.2.2.2.1 i hi
  obtain ⟨A3, c1, c2, c3, c4⟩ := JM.writes (v := jsH v (h' ++ cN (cg ms i) ++ [61])) g2 b3 (a := 2500 + 140 * i + 30) hc2.2.2.2.1.2.1 (by omega) (by omega) (by show (h' ++ cN (cg ms i) ++ [61]).length + _ ≤ 2091; rw [List.length_append, List.length_append]; show h'.length + (cN (cg ms i)).length + 1 + _ ≤ 2091; omega)
  have g3 : Ms A3 M := g2.eq c2 hne
  have c3' : JM (mu A3 M) (jsH v (h' ++ cN (cg ms i) ++ [61] ++ cV (cg ms i))) ms n := c3
  refine ⟨hsL A3 1035 (M + 1) (2500 + 140 * i + 6) (jT v), ?_, g3.set, ((a2.tr b2).tr c2).tr (Eqx.sL rfl), c3'.touch hi (jT v), fun k hk => by rw [mu_set, if_neg (by omega), c4 k hk, b4 k hk, a4 k hk]⟩
  unfold k_X9_send_63
  rw [ck_, Option.bind_some, h.gd (by omega), show nI (2500 + 140 * i) + (14 : Int32) = nI (2500 + 140 * i + 14) from nI_add _ 14, h.vl (by omega), show mu A M (2500 + 140 * i) = _ from hc.1.1, lN_i, a1, Option.bind_some, if_pos g1.1, b1, Option.bind_some, show nI (2500 + 140 * i) + (1 : Int32) = nI (2500 + 140 * i + 1) from nI_add _ 1, g2.gd (by omega), show nI (2500 + 140 * i) + (30 : Int32) = nI (2500 + 140 * i + 30) from nI_add _ 30, g2.vl (by omega), show mu A2 M (2500 + 140 * i + 1) = _ from hc2.1.2.1, lN_i, c1, Option.bind_some, if_pos g3.1, if_pos g3.a11, if_pos (show wix (0 : Int32) _ from g3.wx (i := 0) (by omega)), show nI (2500 + 140 * i) + (6 : Int32) = nI (2500 + 140 * i + 6) from nI_add _ 6, if_pos (g3.wx (by omega)), show hgL A3 1035 (hgR A3 448 M 0) (0 : Int32).toNatClampNeg = jT v from (g3.vl (i := 0) (by omega)).trans c3.1.1.1, g3.2.1, nI_clamp (by omega), nI_1]
theorem JM.sendL {S : List CkV} (hS : SnO S ms (fun c => gos v c (crs v) nav sc)) (ho : okl ms) (hs : srl ms) (hSl : S.length ≤ 40) : ∀ (d k fu : Nat) (A : Hp) (cur : Option Nat), k + d = S.length → d < fu → Ms A M → JM (mu A M) (jsH v ((S.take k).foldl wrH [])) (mkT (S.take k) ms (jT v)) n → ((cur = none ∧ k = S.length) ∨ ∃ i, cur = some i ∧ i < ms.length ∧ k < S.length ∧ cg ms i = cg S k) → ((S.take k).foldl wrH []).length ≤ 51 * k → ((S.take k).foldl wrH [] = [] ↔ k = 0) → ∃ B, k_X9_send_42 M (bI nav) (bI sc) fu A (nI k) (oI cur) = some (nI S.length, B) ∧ Eqx (oP M) A B ∧ JM (mu B M) (jsH v (S.foldl wrH [])) (mkT S ms (jT v)) n ∧ ∀ k, 8400 ≤ k → mu B M k = mu A M k := by
  have hne : ¬ oP M M := show ¬ M = M + 1 by omega
  intro d
  induction d with
  | zero =>
    intro k fu A cur h1 h2 h hJ hc hl h0
    obtain ⟨fu, rfl⟩ : ∃ f, fu = f + 1 := ⟨fu - 1, by omega⟩
    have hk : k = S.length := by omega
    subst hk
    rw [List.take_length] at hJ
    rcases hc with ⟨z, -⟩ | ⟨i, -, -, z, -⟩
    · refine ⟨A, ?_, Eqx.rf, hJ, fun _ _ => rfl⟩
      show k_X9_send_42s M _ _ _ _ _ _ = _
      unfold k_X9_send_42s
      rw [z, if_pos (by decide)]
    · omega
  | succ d ih =>
    intro k fu A cur h1 h2 h hJ hc hl h0
    obtain ⟨fu, rfl⟩ : ∃ f, fu = f + 1 := ⟨fu - 1, by omega⟩
    rcases hc with ⟨-, z⟩ | ⟨i, ci, hi, hk, ei⟩
    · omega
    have hiT : i < (mkT (S.take k) ms (jT v)).length := by rw [mkT_len]; exact hi
    have cc := hJ.2.2.2.2.2.2.1 i hiT
    have lc := cc.2.2.2.2
    -- the name and the value are those of S
    have eN : cN (cg (mkT (S.take k) ms (jT v)) i) = cN (cg S k) ∧ cV (cg (mkT (S.take k) ms (jT v)) i) = cV (cg S k) := by
      rw [mkT_get hi]
      split
      · rw [← ei]; exact ⟨rfl, rfl⟩
      · rw [← ei]; exact ⟨rfl, rfl⟩
    rw [eN.1, eN.2] at lc
    -- what comes behind the header's separator
    have go : ∀ (A' : Hp) (h' : List Int32), Ms A' M → Eqx (oP M) A A' → (∀ k, 8400 ≤ k → mu A' M k = mu A M k) → JM (mu A' M) (jsH v h') (mkT (S.take k) ms (jT v)) n → h'.length ≤ 51 * k + 2 → h' ++ cN (cg S k) ++ [61] ++ cV (cg S k) = (S.take (k + 1)).foldl wrH [] → ∃ B, k_X9_send_63 (k_X9_send_42 M (bI nav) (bI sc) fu) A' M (bI nav) (bI sc) (nI k) (nI i) = some (nI S.length, B) ∧ Eqx (oP M) A B ∧ JM (mu B M) (jsH v (S.foldl wrH [])) (mkT S ms (jT v)) n ∧ ∀ k, 8400 ≤ k → mu B M k = mu A M k := by
      intro A' h' g' e' u' j' l' q'
      obtain ⟨B, b1, b2, b3, b4, b5⟩ := JM.send63 (nav := nav) (sc := sc) (k := k) (k_X9_send_42 M (bI nav) (bI sc) fu) g' j' hiT (by omega)
      rw [eN.1, eN.2, q', ← mkT_step hs hi hk ei] at b4
      have hb := b4.sentBehind b2 (ho.tchd (jT v)) (some i) (fun l hl => by cases hl; rw [mkT_len]; exact hi) nav sc
      have hcg : mn sntB (mkT (S.take (k + 1)) ms (jT v)) (fun c => gos (jsH v ((S.take (k + 1)).foldl wrH [])) c (crs (jsH v ((S.take (k + 1)).foldl wrH []))) nav sc && lstB (mkT (S.take (k + 1)) ms (jT v)) (some i) c) = mn sntB ms (fun c => gos v c (crs v) nav sc && lstB ms (some i) c) := by
        refine mn_congr (mkT_len _ _ _) (fun j hj => ?_) (fun j l hj hl => ?_)
        · rw [mkT_len] at hj
          show (gos v (cg (mkT (S.take (k + 1)) ms (jT v)) j) (crs v) nav sc && sntB (cg (mkT (S.take (k + 1)) ms (jT v)) i) (cg (mkT (S.take (k + 1)) ms (jT v)) j)) = (gos v (cg ms j) (crs v) nav sc && sntB (cg ms i) (cg ms j))
          rw [mkT_get hj, mkT_get hi]
          split <;> split <;> rfl
        · rw [mkT_len] at hj hl
          rw [mkT_get hj, mkT_get hl]
          split <;> split <;> rfl
      rw [hcg] at hb
      have nx := hS.next (last := some i) (k := k + 1) (Or.inr ⟨i, rfl, hi, by omega, by omega, ei⟩)
      obtain ⟨C, c1, c2, c3, c4⟩ := ih (k + 1) fu B _ (by omega) (by omega) b2 b4 nx (by
        rw [← q', List.length_append, List.length_append, List.length_append]
        show h'.length + _ + 1 + _ ≤ _
        omega) ⟨fun z => absurd z (by rw [fold_take hk]; exact wrH_ne _ _), fun z => by omega⟩
      refine ⟨C, ?_, (e'.tr b3).tr c2, c3, fun k hk => by rw [c4 k hk, b5 k hk, u' k hk]⟩
      rw [b1, show f_X9_sentBehind B M (nI i) (bI nav) (bI sc) = _ from hb, Option.bind_some]
      exact c1
    rw [ci]
    have hst : k_X9_send_42 M (bI nav) (bI sc) (fu + 1) A (nI k) (oI (some i)) = k_X9_send_42s M (bI nav) (bI sc) (k_X9_send_42 M (bI nav) (bI sc) fu) A (nI k) (nI i) := rfl
    rw [hst]
    unfold k_X9_send_42s
    have hml := hJ.2.2.2.2.2.2.2
    rw [mkT_len] at hml
    rw [if_neg (nI_pos (by omega))]
    by_cases k0 : k = 0
    · rw [if_pos (show nI k ≤ (0 : Int32) by rw [k0]; exact Int32.le_rfl)]
      refine go A _ h Eqx.rf (fun _ _ => rfl) hJ (by omega) ?_
      rw [fold_take hk, wrH_e (h0.mpr k0)]
    · rw [if_neg (nI_nle (by omega) (by omega)), if_pos h.1]
      obtain ⟨A1, a1, a2, a3, a4⟩ := JM.writesSign h hJ 59 (by show ((S.take k).foldl wrH []).length < 2091; omega)
      have g1 : Ms A1 M := h.eq a2 hne
      obtain ⟨A2, b1, b2, b3, b4⟩ := JM.writesSign (v := jsH v ((S.take k).foldl wrH [] ++ [59])) g1 a3 32 (by show ((S.take k).foldl wrH [] ++ [59]).length < 2091; rw [List.length_append]; show _ + 1 < 2091; omega)
      have g2 : Ms A2 M := g1.eq b2 hne
      rw [a1, Option.bind_some, if_pos g1.1, b1, Option.bind_some]
      refine go A2 ((S.take k).foldl wrH [] ++ [59] ++ [32]) g2 (a2.tr b2) (fun k hk => by rw [b4 k hk, a4 k hk]) b3 (by rw [List.length_append, List.length_append]; show _ + 1 + 1 ≤ _; omega) ?_
      rw [fold_take hk, wrH_n (fun z => k0 (h0.mp z)), List.append_assoc _ [59] [32]]
      rfl
theorem JM.send {t : List Int32} {S : List CkV} (h : Ms A M) (hJ : JM (mu A M) v ms n) (x : Tx A M t) (hop : (jR v).1 = true) (hS : SnO S ms (fun c => gos v c (crs v) nav sc)) (ho : okl ms) (hs : srl ms) (hSl : S.length ≤ 40) : ∃ B, f_X9_send A M (bI nav) (bI sc) = some (nI S.length, B) ∧ RfE A B M ∧ Tx B M t ∧ hgI B 452 M 0 = 0 ∧ JM (mu B M) (jsH v (S.foldl wrH [])) (mkT S ms (jT v)) n := by
  have hne : ¬ oP M M := show ¬ M = M + 1 by omega
  have f0 : RfE A (hsI A 452 M 0 0) M := RfE.sI
  have g0 : Ms (hsI A 452 M 0 0) M := h.fe f0
  have x0 : Tx (hsI A 452 M 0 0) M t := ⟨by rw [hgI_sI, if_neg (by omega)]; exact x.1, x.2.1, x.2.2.1, x.2.2.2⟩
  have j0 : JM (mu (hsI A 452 M 0 0) M) v ms n := hJ
  have t0 : hgI (hsI A 452 M 0 0) 452 M 0 = 0 := by rw [hgI_sI, if_pos ⟨rfl, rfl, rfl⟩]
  unfold f_X9_send
  rw [if_pos h.1, if_pos g0.a11, if_pos (show wix (100 : Int32) _ from g0.wx (i := 100) (by omega)), if_neg (show ¬ hgL (hsI A 452 M 0 0) 1035 (hgR (hsI A 452 M 0 0) 448 M 0) (100 : Int32).toNatClampNeg = 0 from fun z => by
    rw [show hgL (hsI A 452 M 0 0) 1035 (hgR (hsI A 452 M 0 0) 448 M 0) (100 : Int32).toNatClampNeg = lB (jR v).1 from (g0.vl (i := 100) (by omega)).trans j0.2.2.2.2.1.1.1, hop] at z
    exact absurd z (by decide)), if_pos (show wix (8 : Int32) _ from g0.wx (i := 8) (by omega)), g0.2.1, show (8 : Int32).toNatClampNeg = 8 by decide]
  generalize hsI A 452 M 0 0 = A0 at *
  have e1 : Eqx (oP M) A0 (hsL A0 1035 (M + 1) 8 0) := Eqx.sL rfl
  have g1 : Ms (hsL A0 1035 (M + 1) 8 0) M := g0.set
  have m1 : ∀ k, mu (hsL A0 1035 (M + 1) 8 0) M k = if k = 8 then 0 else mu A0 M k := fun k => by rw [mu_set]
  have j1 : JM (mu (hsL A0 1035 (M + 1) 8 0) M) (jsH v []) ms n := j0.hd (fun k q1 q2 => by rw [m1, if_neg q1]) (by rw [m1, if_pos rfl]; rfl) Sg.nil (Nat.zero_le _)
  generalize hsL A0 1035 (M + 1) 8 0 = A1 at *
  have mk0 : mkT ([] : List CkV) ms (jT v) = ms := by
    unfold mkT
    rw [show (fun c : CkV => if c ∈ ([] : List CkV) then tou c (jT v) else c) = id from (by funext c; rw [if_neg (fun z => (nomatch z))]; rfl), List.map_id]
  have hb := j1.sentBehind g1 ho none (fun l hl => by cases hl) nav sc
  have nx := hS.next (last := none) (k := 0) (Or.inl ⟨rfl, rfl⟩)
  have j1' : JM (mu A1 M) (jsH v ((S.take 0).foldl wrH [])) (mkT (S.take 0) ms (jT v)) n := by
    show JM (mu A1 M) (jsH v []) (mkT [] ms (jT v)) n
    rw [mk0]; exact j1
  obtain ⟨B, b1, b2, b3, b4⟩ := JM.sendL (nav := nav) (sc := sc) hS ho hs hSl S.length 0 FU A1 _ (by omega) (by unfold FU; omega) g1 j1' nx (Nat.zero_le _) ⟨fun _ => rfl, fun _ => rfl⟩
  have e : Eqx (oP M) A0 B := e1.tr b2
  refine ⟨B, ?_, f0.tr e.fe, ?_, (e.I hne 452 0).trans t0, b3⟩
  · rw [show f_X9_sentBehind A1 M (-1 : Int32) (bI nav) (bI sc) = _ from hb, Option.bind_some]
    exact b1
  · refine ⟨(e.I hne 451 0).trans x0.1, x0.2.1, x0.2.2.1.congr (fun k q1 q2 => ?_), x0.2.2.2⟩
    rw [b4 k q1, m1, if_neg (by omega)]
end
-- the class's side
theorem posQ_spec (cs : List CkV) (L : List Nat) (i : Nat) : ∀ k, (∀ j, posQ cs L i k ≤ j → j < k → sntB (cg cs i) (cg cs (L.getD j 0)) = true) ∧ (0 < posQ cs L i k → sntB (cg cs i) (cg cs (L.getD (posQ cs L i k - 1) 0)) = false) := by
  intro k
  induction k with
  | zero => exact ⟨fun j _ h => absurd h (Nat.not_lt_zero j), fun h => absurd h (Nat.lt_irrefl 0)⟩
  | succ k ih =>
    have e : posQ cs L i (k + 1) = if sntB (cg cs i) (cg cs (L.getD k 0)) then posQ cs L i k else k + 1 := rfl
    rw [e]
    cases q : sntB (cg cs i) (cg cs (L.getD k 0)) with
    | true =>
      rw [if_pos rfl]
      refine ⟨fun j h1 h2 => ?_, ih.2⟩
      by_cases z : j = k
      · rw [z]; exact q
      · exact ih.1 j h1 (by omega)
    | false =>
      rw [if_neg (by decide)]
      exact ⟨fun j h1 h2 => by omega, fun _ => by rw [Nat.add_sub_cancel]; exact q⟩
def snS (cs : List CkV) (L : List Nat) : Prop := ∀ a b, a < b → b < L.length → sntB (cg cs (L.getD a 0)) (cg cs (L.getD b 0)) = true
theorem snS.put {cs : List CkV} {L : List Nat} {i : Nat} (h : snS cs L) (hs : srl cs) (hi : i < cs.length) (hL : ∀ k ∈ L, k < i) : snS cs (enq cs L i) := by
  have hp := posQ_le cs L i L.length
  obtain ⟨p1, p2⟩ := posQ_spec cs L i L.length
  have mem : ∀ k, k < L.length → L.getD k 0 < i := fun k hk => hL _ (by
    rw [List.getD_eq_getElem?_getD, List.getElem?_eq_getElem hk]
    exact List.getElem_mem hk)
  -- those ahead of the place come before it
  have bef : ∀ a, a < posQ cs L i L.length → sntB (cg cs (L.getD a 0)) (cg cs i) = true := by
    intro a ha
    have last : sntB (cg cs (L.getD (posQ cs L i L.length - 1) 0)) (cg cs i) = true := by
      have q := p2 (by omega)
      have ml := mem (posQ cs L i L.length - 1) (by omega)
      cases z : sntB (cg cs (L.getD (posQ cs L i L.length - 1) 0)) (cg cs i) with
      | true => rfl
      | false =>
        have := sntB_tot hs _ (cg_mem hi) _ (cg_mem (show L.getD (posQ cs L i L.length - 1) 0 < cs.length by omega)) q z
        have := hs.idx hi (show L.getD (posQ cs L i L.length - 1) 0 < cs.length by omega) (by rw [this])
        omega
    by_cases z : a = posQ cs L i L.length - 1
    · rw [z]; exact last
    · exact sntB_StO.2 _ _ _ (h a (posQ cs L i L.length - 1) (by omega) (by omega)) last
  intro a b hab hb
  unfold enq at hb ⊢
  rw [List.length_insertIdx_of_le_length hp] at hb
  rw [insN hp, insN hp]
  by_cases b1 : b < posQ cs L i L.length
  · rw [if_pos (by omega), if_pos b1]; exact h a b hab (by omega)
  · rw [if_neg b1]
    by_cases b2 : b = posQ cs L i L.length
    · rw [if_pos b2, if_pos (by omega)]; exact bef a (by omega)
    · rw [if_neg b2]
      by_cases a1 : a < posQ cs L i L.length
      · rw [if_pos a1]; exact h a (b - 1) (by omega) (by omega)
      · rw [if_neg a1]
        by_cases a2 : a = posQ cs L i L.length
        · rw [if_pos a2]; exact p1 (b - 1) (by omega) (by omega)
        · rw [if_neg a2]; exact h (a - 1) (b - 1) (by omega) (by omega)
theorem snL_spec {v : JV} {x nav sc : Bool} (hs : srl (jC v)) : ∀ n, n ≤ (jC v).length → snS (jC v) (snL v x nav sc n) ∧ ∀ k, k ∈ snL v x nav sc n ↔ k < n ∧ gos v (cg (jC v) k) x nav sc = true := by
  intro n
  induction n with
  | zero => intro _; exact ⟨fun a b _ h => absurd h (Nat.not_lt_zero b), fun k => ⟨fun h => (nomatch h), fun h => absurd h.1 (Nat.not_lt_zero k)⟩⟩
  | succ n ih =>
    intro hn
    obtain ⟨i1, i2⟩ := ih (by omega)
    have e : snL v x nav sc (n + 1) = if gos v (cg (jC v) n) x nav sc then enq (jC v) (snL v x nav sc n) n else snL v x nav sc n := rfl
    rw [e]
    cases q : gos v (cg (jC v) n) x nav sc with
    | true =>
      rw [if_pos rfl]
      refine ⟨i1.put hs (by omega) (fun k hk => ((i2 k).mp hk).1), fun k => ?_⟩
      rw [enq_mem, i2]
      constructor
      · rintro (z | z)
        · rw [z]; exact ⟨by omega, q⟩
        · exact ⟨by omega, z.2⟩
      · intro z
        by_cases y : k = n
        · exact Or.inl y
        · exact Or.inr ⟨by omega, z.2⟩
    | false =>
      rw [if_neg (by decide)]
      refine ⟨i1, fun k => ?_⟩
      rw [i2]
      constructor
      · intro z; exact ⟨by omega, z.2⟩
      · intro z
        refine ⟨?_, z.2⟩
        by_cases y : k = n
        · rw [y, q] at z; cases z.2
        · omega
/-- those that are sent, by the class -/
def sndS (v : JV) (nav sc : Bool) : List CkV := (snL v (crs v) nav sc (jC v).length).map (fun i => cg (jC v) i)
theorem map_cg {L : List Nat} {cs : List CkV} {k : Nat} (hk : k < L.length) : cg (L.map (fun i => cg cs i)) k = cg cs (L.getD k 0) := by
  simp [cg, hk]
theorem sndS_SnO {v : JV} {ms : List CkV} {nav sc : Bool} (hs : srl (jC v)) (p : ms.Perm (jC v)) : SnO (sndS v nav sc) ms (fun c => gos v c (crs v) nav sc) := by
  obtain ⟨s1, s2⟩ := snL_spec (v := v) (x := crs v) (nav := nav) (sc := sc) hs (jC v).length (Nat.le_refl _)
  refine ⟨fun i j hij hj => ?_, fun c => ?_⟩
  · unfold sndS at hj ⊢
    rw [List.length_map] at hj
    rw [map_cg (by omega), map_cg hj]
    exact s1 i j hij hj
  · unfold sndS
    rw [List.mem_map]
    constructor
    · rintro ⟨k, k1, k2⟩
      have := (s2 k).mp k1
      rw [← k2]
      exact ⟨p.mem_iff.mpr (cg_mem this.1), this.2⟩
    · rintro ⟨c1, c2⟩
      obtain ⟨k, k1, k2⟩ := cg_of_mem (p.mem_iff.mp c1)
      exact ⟨k, (s2 k).mpr ⟨k1, by rw [k2]; exact c2⟩, k2⟩
theorem sndS_len (v : JV) (nav sc : Bool) : (sndS v nav sc).length = (snL v (crs v) nav sc (jC v).length).length := List.length_map _
theorem wrQ_spec (t : Int64) : ∀ (L : List Nat) (h : List Int32) (cs : List CkV), (∀ i ∈ L, i < cs.length) → (wrQ t L (h, cs)).1 = (L.map (fun i => cg cs i)).foldl wrH h ∧ (wrQ t L (h, cs)).2.length = cs.length ∧ ∀ j, j < cs.length → cg (wrQ t L (h, cs)).2 j = if j ∈ L then tou (cg cs j) t else cg cs j := by
  intro L
  induction L with
  | nil => intro h cs _; exact ⟨rfl, rfl, fun j _ => by rw [if_neg (fun z => (nomatch z))]; rfl⟩
  | cons i L ih =>
    intro h cs hL
    have hi := hL i List.mem_cons_self
    obtain ⟨i1, i2, i3⟩ := ih (wrH h (cg cs i)) (cs.set i (tou (cg cs i) t)) (fun j hj => by rw [List.length_set]; exact hL j (List.mem_cons_of_mem _ hj))
    have gt : ∀ j, cg (cs.set i (tou (cg cs i) t)) j = if j = i then tou (cg cs i) t else cg cs j := fun j => by
      by_cases z : j = i
      · rw [if_pos z, z]; simp [cg, hi]
      · rw [if_neg z]
        simp only [cg, List.getD_eq_getElem?_getD]
        rw [List.getElem?_set_ne (fun y => z y.symm)]
    have fo : ∀ (K : List Nat) (x : List Int32), (K.map (fun j => cg (cs.set i (tou (cg cs i) t)) j)).foldl wrH x = (K.map (fun j => cg cs j)).foldl wrH x := by
      intro K
      induction K with
      | nil => intro x; rfl
      | cons k K ihK =>
        intro x
        show (K.map _).foldl wrH (wrH x (cg (cs.set i (tou (cg cs i) t)) k)) = (K.map _).foldl wrH (wrH x (cg cs k))
        rw [ihK, gt]
        by_cases z : k = i
        · rw [if_pos z, z]; rfl
        · rw [if_neg z]
    show (wrQ t L (wrH h (cg cs i), cs.set i (tou (cg cs i) t))).1 = (L.map (fun i => cg cs i)).foldl wrH (wrH h (cg cs i)) ∧ (wrQ t L (wrH h (cg cs i), cs.set i (tou (cg cs i) t))).2.length = cs.length ∧ ∀ j, j < cs.length → cg (wrQ t L (wrH h (cg cs i), cs.set i (tou (cg cs i) t))).2 j = _
    refine ⟨by rw [i1, fo], by rw [i2, List.length_set], fun j hj => ?_⟩
    rw [i3 j (by rw [List.length_set]; exact hj), gt]
    by_cases z : j = i
    · rw [if_pos z, z, if_pos (List.mem_cons_self)]
      split <;> rfl
    · rw [if_neg z]
      by_cases y : j ∈ L
      · rw [if_pos y, if_pos (List.mem_cons_of_mem _ y)]
      · rw [if_neg y, if_neg (fun w => by rcases List.mem_cons.mp w with w | w; exact z w; exact y w)]
theorem snd_class {v : JV} {nav sc : Bool} (hs : srl (jC v)) : (wrQ (jT v) (snL v (crs v) nav sc (jC v).length) ([], jC v)).1 = (sndS v nav sc).foldl wrH [] ∧ (wrQ (jT v) (snL v (crs v) nav sc (jC v).length) ([], jC v)).2 = mkT (sndS v nav sc) (jC v) (jT v) := by
  obtain ⟨s1, s2⟩ := snL_spec (v := v) (x := crs v) (nav := nav) (sc := sc) hs (jC v).length (Nat.le_refl _)
  obtain ⟨w1, w2, w3⟩ := wrQ_spec (jT v) (snL v (crs v) nav sc (jC v).length) [] (jC v) (fun i hi => ((s2 i).mp hi).1)
  refine ⟨w1, ?_⟩
  have hO := (sndS_SnO (nav := nav) (sc := sc) hs (List.Perm.refl (jC v))).2
  apply List.ext_getElem
  · rw [w2, mkT_len]
  · intro j h1 h2
    have hj : j < (jC v).length := by rw [w2] at h1; exact h1
    have g1 : (wrQ (jT v) (snL v (crs v) nav sc (jC v).length) ([], jC v)).2[j] = cg (wrQ (jT v) (snL v (crs v) nav sc (jC v).length) ([], jC v)).2 j := by simp [cg, h1]
    have g2 : (mkT (sndS v nav sc) (jC v) (jT v))[j] = cg (mkT (sndS v nav sc) (jC v) (jT v)) j := by simp [cg, h2]
    rw [g1, g2, w3 j hj, mkT_get hj]
    have : j ∈ snL v (crs v) nav sc (jC v).length ↔ cg (jC v) j ∈ sndS v nav sc := by
      rw [s2, hO]
      exact ⟨fun z => ⟨cg_mem hj, z.2⟩, fun z => ⟨hj, z.2⟩⟩
    by_cases y : j ∈ snL v (crs v) nav sc (jC v).length
    · rw [if_pos y, if_pos (this.mp y)]
    · rw [if_neg y, if_neg (fun w => y (this.mpr w))]
theorem Inv.tchd {v : JV} {b : Nat} (h : Inv v b) (P : List CkV) (hd : List Int32) : Inv (jsC (jsH v hd) (mkT P (jC v) (jT v))) (b + 1) := by
  obtain ⟨⟨a1, a2, a3, a4⟩, l, ⟨p1, p2⟩, q, k, T, t1, t2⟩ := h
  refine ⟨⟨a1.eqk (mkT_len _ _ _) (fun i hi => ?_), ⟨?_, fun c hc => ?_, ?_⟩, by show (mkT P (jC v) (jT v)).length ≤ 40; rw [mkT_len]; exact a3, fun c hc => ?_⟩, l, ⟨p1, p2⟩, q, fun i hi => by have := k i hi; show jK v i ≤ _; omega, T, t1, T_up t2⟩
  · show ccmp (cg (jC v) i) (cg (mkT P (jC v) (jT v)) i) = 0
    rw [mkT_get hi]
    split
    · exact ccmp_self _
    · exact ccmp_self _
  · exact a2.1.tchd (jT v)
  · obtain ⟨d, d1, d2⟩ := List.mem_map.mp hc
    rw [← d2]
    split
    · exact a2.2.1 d d1
    · exact a2.2.1 d d1
  · have := a2.2.2
    unfold srl at this ⊢
    show ((mkT P (jC v) (jT v)).map (fun c => cS c)).Nodup
    have e : (mkT P (jC v) (jT v)).map (fun c => cS c) = (jC v).map (fun c => cS c) := by
      unfold mkT
      rw [List.map_map]
      apply List.map_congr_left
      intro c _
      show cS (if c ∈ P then tou c (jT v) else c) = cS c
      split <;> rfl
    rw [e]; exact this
  · obtain ⟨d, d1, d2⟩ := List.mem_map.mp hc
    rw [← d2]
    show cS (if d ∈ P then tou d (jT v) else d) < jK v 0
    split
    · exact a4 d d1
    · exact a4 d d1
