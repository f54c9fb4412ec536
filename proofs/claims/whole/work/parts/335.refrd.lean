/-! the reference: attributes, a cookie's text -/
def RdE (A B : Hp) (M : Nat) : Prop := Eqx (fun q => q = M ∨ q = M + 1) A B ∧ (∀ f, hgR B f M 0 = hgR A f M 0) ∧ (∀ f, f < 472 ∨ 481 ≤ f → hgI B f M 0 = hgI A f M 0) ∧ ∀ k, k < 8600 → mu B M k = mu A M k
theorem RdE.rf {A : Hp} {M : Nat} : RdE A A M := ⟨Eqx.rf, fun _ => rfl, fun _ _ => rfl, fun _ _ => rfl⟩
theorem RdE.tr {A B C : Hp} {M : Nat} (h : RdE A B M) (k : RdE B C M) : RdE A C M := ⟨h.1.tr k.1, fun f => (k.2.1 f).trans (h.2.1 f), fun f hf => (k.2.2.1 f hf).trans (h.2.2.1 f hf), fun q hq => (k.2.2.2 q hq).trans (h.2.2.2 q hq)⟩
theorem RdE.sI {A : Hp} {M f : Nat} {x : Int32} (h1 : 472 ≤ f) (h2 : f < 481) : RdE A (hsI A f M 0 x) M := ⟨Eqx.sI (Or.inl rfl), fun _ => rfl, fun f' hf => by rw [hgI_sI, if_neg (by omega)], fun _ _ => rfl⟩
theorem RdE.sF {A : Hp} {M f : Nat} {x : Int64} : RdE A (hsL A f M 0 x) M := ⟨Eqx.sL (Or.inl rfl), fun _ => rfl, fun _ _ => rfl, fun k _ => by
  show hgL (hsL A f M 0 x) 1035 (M + 1) k = _
  rw [hgL_sL, if_neg (by omega)]⟩
theorem RdE.sM {A : Hp} {M i : Nat} {x : Int64} (h : 8600 ≤ i) : RdE A (hsL A 1035 (M + 1) i x) M := ⟨Eqx.sL (Or.inr rfl), fun _ => rfl, fun _ _ => rfl, fun k hk => by rw [mu_set, if_neg (by omega)]⟩
theorem Ms.re {A B : Hp} {M : Nat} (h : Ms A M) (e : RdE A B M) : Ms B M := ⟨by rw [e.1.2.1]; exact h.1, by rw [e.2.1]; exact h.2.1, by rw [e.1.2.1]; exact h.2.2⟩
theorem Mw.re {A B : Hp} {M : Nat} (h : Mw A M) (e : RdE A B M) : Mw B M := fun k hk => by
  obtain ⟨h1, h2, h3⟩ := h k hk
  exact ⟨by rw [e.2.1]; exact h1, by rw [e.1.2.1]; exact h2, fun i hi => by rw [e.1.I (by omega)]; exact h3 i hi⟩
theorem Tx.re {A B : Hp} {M : Nat} {t : List Int32} (x : Tx A M t) (e : RdE A B M) : Tx B M t :=
  ⟨by rw [e.2.2.1 451 (by omega)]; exact x.1, x.2.1, x.2.2.1.congr (fun k h1 h2 => e.2.2.2 k (by have := x.2.1; omega)), x.2.2.2⟩
def AgM (A : Hp) (M : Nat) (v : RdV) : Prop := hgI A 472 M 0 = bI v.2.1.2.1.isSome ∧ ∀ x, v.2.1.2.1 = some x → hgL A 473 M 0 = x.toInt64
def DtM (A : Hp) (M : Nat) (v : RdV) : Prop := hgI A 474 M 0 = bI v.2.1.2.2.isSome ∧ ∀ n, v.2.1.2.2 = some n → hgL A 475 M 0 = lN n
def DoM (A : Hp) (M : Nat) (v : RdV) : Prop := hgI A 476 M 0 = bI (decide (v.1.2.2.1 ≠ [])) ∧ (v.1.2.2.1 ≠ [] → hgI A 477 M 0 = nI v.1.2.2.1.length ∧ Sg (mu A M) 8800 v.1.2.2.1) ∧ v.1.2.2.1.length ≤ 160
def PaM (A : Hp) (M : Nat) (t : List Int32) (v : RdV) : Prop := hgI A 478 M 0 = bI (decide (v.1.2.2.2 ≠ [])) ∧ (v.1.2.2.2 ≠ [] → ∃ c, hgI A 479 M 0 = nI c ∧ hgI A 480 M 0 = nI v.1.2.2.2.length ∧ c + v.1.2.2.2.length ≤ t.length ∧ Sg (mu A M) (8400 + c) v.1.2.2.2) ∧ v.1.2.2.2.length ≤ 40
def FlM (A : Hp) (M : Nat) (v : RdV) : Prop := mu A M 8609 = lB v.2.2.1 ∧ mu A M 8610 = lB v.2.2.2.1 ∧ mu A M 8611 = lN v.2.2.2.2.1 ∧ mu A M 8612 = lN v.2.2.2.2.2
def AtM (A : Hp) (M : Nat) (t : List Int32) (v : RdV) : Prop := AgM A M v ∧ DtM A M v ∧ DoM A M v ∧ PaM A M t v ∧ FlM A M v
theorem neg64 {n : Nat} (h : n < 2 ^ 31) : (-(nI n)).toInt64 = (0 : Int64) - lN n := by
  apply Int64.toInt_inj.mp
  rw [Int32.toInt_toInt64, Int32.toInt_neg, nI_toInt h, Int64.toInt_sub, lN_toInt h, Int64.toInt_zero]
  rw [Int.bmod_eq_of_le (by omega) (by omega), Int.bmod_eq_of_le (by omega) (by omega)]
  omega
def aSt (A : Hp) (M : Nat) (o : Option Int32) : Hp := match o with
  | none => A
  | some x => hsL (hsI A 472 M 0 1) 473 M 0 x.toInt64
section
variable {A : Hp} {M : Nat} {t : List Int32}
theorem Ms.readsAge (h : Ms A M) (x : Tx A M t) {c d : Nat} (hcd : c ≤ d) (hd : d ≤ t.length) : f_X9_readsAge A M (nI c) (nI d) = some (aSt A M (rdAge (sub t c d))) := by
  have hx2 := x.2.1
  have hlen : (sub t c d).length = d - c := by rw [sub_len]; omega
  have K : ∀ (neg : Bool) (f : Nat), (neg = true → c < d) → f = (if neg then 1 else 0) → k_X9_readsAge_27 A M (nI c) (nI d) (bI neg) = some (aSt A M (if 1 ≤ (sub t c d).length - f ∧ (sub t c d).length - f ≤ 9 then (num (sub t c d) f (sub t c d).length).map (fun n => if neg then -(nI n) else nI n) else none)) := by
    intro neg f hn hf
    have hcf : c + f ≤ d := by
      cases neg
      · rw [hf, if_neg (by decide)]; exact hcd
      · rw [hf, if_pos rfl]; exact hn rfl
    have e39 : k_X9_readsAge_27 A M (nI c) (nI d) (bI neg) = k_X9_readsAge_39 A M (nI d) (bI neg) (nI (c + f)) := by
      unfold k_X9_readsAge_27
      cases neg
      · rw [if_pos (by rfl), hf, if_neg (by decide)]; rfl
      · rw [if_neg (by decide), hf, if_pos rfl, nI_1]
    rw [e39]
    unfold k_X9_readsAge_39 k_X9_readsAge_69 k_X9_readsAge_97
    rw [pk_sub hcf, nI_l (by omega), show f_X9_in A (lN (d - (c + f))) (1 : Int64) (9 : Int64) = _ from inn_ (a := 1) (b := 9) (by omega) (by omega) (by omega), Option.bind_some, hlen, show d - c - f = d - (c + f) by omega]
    by_cases h9 : 1 ≤ d - (c + f) ∧ d - (c + f) ≤ 9
    · rw [decide_eq_true h9, if_neg (by decide), if_pos h9, if_pos h.1, h.number x hcf hd (by omega), Option.bind_some]
      have : num (sub t c d) f (d - c) = num t (c + f) d := by
        rw [num_sub hd (by omega) (by omega), show c + (d - c) = d by omega]
      rw [this]
      cases hnm : num t (c + f) d with
      | none => rw [if_pos (by decide)]; rfl
      | some n =>
        have hb := num_lt9 (by omega) hnm
        rw [if_neg (show ¬ oL (some n) < 0 from lN_neg (by omega)), if_pos h.1]
        cases neg
        · rw [if_pos (by rfl), hsh_sI, if_pos h.1]
          show some (hsL _ 473 M 0 (lN n)) = some (hsL _ 473 M 0 ((if false = true then -(nI n) else nI n)).toInt64)
          rw [if_neg (by decide), nI_l (by omega)]
        · rw [if_neg (by decide), hsh_sI, if_pos h.1]
          show some (hsL _ 473 M 0 ((0 : Int64) - lN n)) = some (hsL _ 473 M 0 ((if true = true then -(nI n) else nI n)).toInt64)
          rw [if_pos rfl, neg64 (by omega)]
    · rw [decide_eq_false h9, if_pos (by rfl), if_neg h9, if_pos (by decide)]
      rfl
  unfold f_X9_readsAge k_X9_readsAge_26 rdAge
  by_cases h0 : c < d
  · rw [if_neg (nI_ge h0 (by omega)), show (8400 : Int32) + nI c = nI (8400 + c) from nI_add 8400 c, h.gd (by omega), h.vl (by omega), show mu A M (8400 + c) = _ from x.2.2.1 c (by omega)]
    have hg : g (sub t c d) 0 = g t c := sub_g (by omega)
    by_cases hm : g t c = 45
    · rw [if_pos (show (g t c).toInt64 = (45 : Int64) from (cq 45 (by decide)).mpr hm), show (1 : Int32) = bI true from rfl]
      have hd1 : decide (g (sub t c d) 0 = 45) = true := decide_eq_true (by rw [hg]; exact hm)
      simp only [hd1]
      exact K true _ (fun _ => h0) rfl
    · rw [if_neg (show ¬ (g t c).toInt64 = (45 : Int64) from fun z => hm ((cq 45 (by decide)).mp z)), show (0 : Int32) = bI false from rfl]
      have hd1 : decide (g (sub t c d) 0 = 45) = false := decide_eq_false (by rw [hg]; exact hm)
      simp only [hd1]
      exact K false _ (fun z => by cases z) rfl
  · rw [if_pos (nI_le (by omega) (by omega)), show (0 : Int32) = bI false from rfl]
    have hd1 : decide (g (sub t c d) 0 = 45) = false := decide_eq_false (by rw [g_ge (by omega)]; decide)
    simp only [hd1]
    exact K false _ (fun z => by cases z) rfl
def doR (A B : Hp) (M : Nat) (o : Option (List Int32)) : Prop := match o with
  | none => B = A
  | some s => hgI B 476 M 0 = 1 ∧ hgI B 477 M 0 = nI s.length ∧ Sg (mu B M) 8800 s ∧ RdE A B M ∧ (∀ f, f ≠ 476 → f ≠ 477 → hgI B f M 0 = hgI A f M 0) ∧ (∀ f, hgL B f M 0 = hgL A f M 0) ∧ ∀ k, k < 8800 → mu B M k = mu A M k
theorem low_sub (s : List Int32) (a b : Nat) : low (sub s a b) = sub (low s) a b := by
  unfold low sub; rw [List.map_drop, List.map_take]
theorem Ms.readsDomain (h : Ms A M) (x : Tx A M t) {c d : Nat} (hcd : c ≤ d) (hd : d ≤ t.length) : ∃ B, f_X9_readsDomain A M (nI c) (nI d) = some B ∧ doR A B M (rdDm (sub t c d)) := by
  have hx2 := x.2.1
  have hlen : (sub t c d).length = d - c := by rw [sub_len]; omega
  -- the loop over the letters
  have L : ∀ b : Nat, c ≤ b → b ≤ d → ∀ e k fu C, k + e = d - b → e < fu → Ms C M → Tx C M t → hgI C 477 M 0 = nI (d - b) → (∀ i, i < k → mu C M (8800 + i) = (lowc (g t (b + i))).toInt64) → ∃ B, k_X9_readsDomain_70 M (nI b) fu C (nI k) = some B ∧ (∀ i, i < d - b → mu B M (8800 + i) = (lowc (g t (b + i))).toInt64) ∧ Eqx (oP M) C B ∧ ∀ k, k < 8800 → mu B M k = mu C M k := by
    intro b hb1 hb2 e
    induction e with
    | zero =>
      intro k fu C h1 h2 hC xC h477 hI
      obtain ⟨fu, rfl⟩ : ∃ f, fu = f + 1 := ⟨fu - 1, by omega⟩
      refine ⟨C, ?_, fun i hi => hI i (by omega), Eqx.rf, fun _ _ => rfl⟩
      show k_X9_readsDomain_70s M _ _ _ _ = _
      unfold k_X9_readsDomain_70s
      rw [if_pos hC.1, h477, if_pos (nI_le (by omega) (by omega))]
    | succ e ih =>
      intro k fu C h1 h2 hC xC h477 hI
      obtain ⟨fu, rfl⟩ : ∃ f, fu = f + 1 := ⟨fu - 1, by omega⟩
      have e1 : Eqx (oP M) C (hsL C 1035 (M + 1) (8800 + k) (lowc (g t (b + k))).toInt64) := Eqx.sL rfl
      obtain ⟨B, f1, f2, f3, f4⟩ := ih (k + 1) fu (hsL C 1035 (M + 1) (8800 + k) (lowc (g t (b + k))).toInt64) (by omega) (by omega) hC.set (xC.eq e1 (fun q h1 h2 => by rw [mu_set, if_neg (by omega)])) h477 (fun i hi => by
        rw [mu_set]
        by_cases hq : i = k
        · rw [if_pos (by omega), hq]
        · rw [if_neg (by omega)]; exact hI i (by omega))
      refine ⟨B, ?_, f2, e1.tr f3, fun q hq => by rw [f4 q hq, mu_set, if_neg (by omega)]⟩
      show k_X9_readsDomain_70s M _ _ _ _ = _
      unfold k_X9_readsDomain_70s
      rw [if_pos hC.1, h477, if_neg (nI_ge (by omega) (by omega)), show (8400 : Int32) + nI b = nI (8400 + b) from nI_add 8400 b, nI_add, if_pos hC.a11, if_pos (hC.wx (by omega)), hC.vl (by omega), show mu C M (8400 + b + k) = (g t (b + k)).toInt64 from (by rw [Nat.add_assoc]; exact xC.2.2.1 (b + k) (by omega)), lowL (g_ok x.2.2.2 (by omega)) (k_X9_readsDomain_129 (k_X9_readsDomain_70 M (nI b) fu) C M (nI b) (nI k) (hgR C 448 M 0) ((8800 : Int32) + nI k))]
      unfold k_X9_readsDomain_129
      rw [hC.2.1, hC.2.2, if_pos rfl, show (8800 : Int32) + nI k = nI (8800 + k) from nI_add 8800 k, if_pos ((nI_wix (by omega)).mpr (show 8800 + k < 9000 by omega)), nI_clamp (by omega), nI_1, f1]
  have K : ∀ b : Nat, c ≤ b → b < d → ∃ B, k_X9_readsDomain_54 A M (nI d) (nI b) = some B ∧ doR A B M (some (low (sub (sub t c d) (b - c) (d - c)))) := by
    intro b hb1 hb2
    have e0 : RdE A (hsI (hsI A 476 M 0 1) 477 M 0 (nI (d - b))) M := (RdE.sI (by omega) (by omega)).tr (RdE.sI (by omega) (by omega))
    obtain ⟨B, f1, f2, f3, f4⟩ := L b hb1 (by omega) (d - b) 0 FU (hsI (hsI A 476 M 0 1) 477 M 0 (nI (d - b))) (by omega) (by unfold FU; omega) (h.re e0) (x.re e0) (by rw [hgI_sI, if_pos ⟨rfl, rfl, rfl⟩]) (fun i hi => absurd hi (Nat.not_lt_zero i))
    have hne : ¬ oP M M := show ¬ M = M + 1 by omega
    have hl2 : (low (sub (sub t c d) (b - c) (d - c))).length = d - b := by rw [low_len, sub_len, hlen]; omega
    refine ⟨B, ?_, ?_, ?_, ?_, ?_, ?_, ?_, ?_⟩
    · unfold k_X9_readsDomain_54
      rw [if_pos h.1, pk_sub (by omega)]
      exact f1
    · rw [f3.I hne, hgI_sI, if_neg (by omega), hgI_sI, if_pos ⟨rfl, rfl, rfl⟩]
    · rw [f3.I hne, hgI_sI, if_pos ⟨rfl, rfl, rfl⟩, hl2]
    · intro i hi
      rw [hl2] at hi
      rw [f2 i hi, low_g (by rw [sub_len, hlen]; omega), sub_g (by omega), sub_g (by omega), show c + (b - c + i) = b + i by omega]
    · refine e0.tr ⟨f3.mo (fun q hq => Or.inr hq), fun f => f3.R hne f 0, fun f _ => f3.I hne f 0, fun k hk => f4 k (by omega)⟩
    · intro f h1 h2
      rw [f3.I hne, hgI_sI, if_neg (by omega), hgI_sI, if_neg (by omega)]
    · intro f
      rw [f3.L hne]; rfl
    · intro k hk
      rw [f4 k hk]; rfl
  have hg : c < d → g (sub t c d) 0 = g t c := fun z => sub_g (by omega)
  have k30 : c < d → (g t c = 46 → c + 1 < d) → ∃ B, k_X9_readsDomain_30 A M (nI c) (nI d) = some B ∧ doR A B M (rdDm (sub t c d)) := by
    intro h0 h1
    unfold k_X9_readsDomain_30 rdDm
    rw [show (8400 : Int32) + nI c = nI (8400 + c) from nI_add 8400 c, h.gd (by omega), h.vl (by omega), show mu A M (8400 + c) = _ from x.2.2.1 c (by omega), hlen, hg h0]
    by_cases hm : g t c = 46
    · obtain ⟨B, f1, f2⟩ := K (c + 1) (by omega) (h1 hm)
      refine ⟨B, ?_, ?_⟩
      · rw [if_pos (show (g t c).toInt64 = (46 : Int64) from (cq 46 (by decide)).mpr hm), nI_1]; exact f1
      · rw [show c + 1 - c = 1 by omega] at f2
        simp only [if_pos hm]
        rw [if_pos (by have := h1 hm; omega)]
        exact f2
    · obtain ⟨B, f1, f2⟩ := K c (by omega) h0
      refine ⟨B, ?_, ?_⟩
      · rw [if_neg (show ¬ (g t c).toInt64 = (46 : Int64) from fun z => hm ((cq 46 (by decide)).mp z))]; exact f1
      · rw [Nat.sub_self] at f2
        simp only [if_neg hm]
        rw [if_pos (by omega)]
        exact f2
  unfold f_X9_readsDomain
  by_cases h0 : d = c
  · refine ⟨A, by rw [if_pos (by rw [h0])], ?_⟩
    unfold rdDm
    rw [hlen]
    have : ¬ (if g (sub t c d) 0 = 46 then 1 else 0) < d - c := by split <;> omega
    simp only [if_neg this]
    rfl
  · rw [if_neg (fun z => h0 ((nI_eq (by omega) (by omega)).mp z)), pk_sub hcd]
    by_cases h1 : d - c = 1
    · rw [if_pos (show nI (d - c) = (1 : Int32) by rw [h1]; rfl), show (8400 : Int32) + nI c = nI (8400 + c) from nI_add 8400 c, h.gd (by omega), h.vl (by omega), show mu A M (8400 + c) = _ from x.2.2.1 c (by omega)]
      by_cases hm : g t c = 46
      · refine ⟨A, by rw [if_pos (show (g t c).toInt64 = (46 : Int64) from (cq 46 (by decide)).mpr hm)], ?_⟩
        unfold rdDm
        rw [hlen, hg (by omega)]
        simp only [if_pos hm]
        rw [if_neg (by omega)]
        rfl
      · rw [if_neg (show ¬ (g t c).toInt64 = (46 : Int64) from fun z => hm ((cq 46 (by decide)).mp z))]
        exact k30 (by omega) (fun z => absurd z hm)
    · rw [if_neg (show ¬ nI (d - c) = (1 : Int32) from fun z => h1 ((nI_eq (b := 1) (by omega) (by omega)).mp z))]
      exact k30 (by omega) (fun _ => by omega)
theorem Ms.readsChoice (h : Ms A M) (hM : Mw A M) (x : Tx A M t) {c d p o i j k : Nat} (hcd : c ≤ d) (hd : d ≤ t.length) (hp : p ≤ 12) (hi : i < 19) (hj : j < 19) (hk : k < 19) (ho : mu A M (8600 + p) = lN o) : f_X9_readsChoice A M (nI p) (nI c) (nI d) (hgR A (453 + i) M 0) (hgR A (453 + j) M 0) (hgR A (453 + k) M 0) = some (hsL A 1035 (M + 1) (8600 + p) (lN (if low (sub t c d) = wdl i then 0 else if low (sub t c d) = wdl j then 1 else if low (sub t c d) = wdl k then 2 else o))) := by
  have hx2 := x.2.1
  have K : ∀ n : Nat, n < 3 → k_X9_readsChoice_46 A M (nI p) (nI n) = some (hsL A 1035 (M + 1) (8600 + p) (lN n)) := by
    intro n hn
    unfold k_X9_readsChoice_46 k_X9_readsChoice_78
    rw [if_pos h.1, if_neg (nI_pos (by omega)), h.2.1, h.2.2, if_pos rfl, show (8600 : Int32) + nI p = nI (8600 + p) from nI_add 8600 p, if_pos ((nI_wix (by omega)).mpr (show 8600 + p < 9000 by omega)), nI_clamp (by omega), nI_l (by omega)]
  unfold f_X9_readsChoice
  rw [if_pos h.1, h.isLikelyW hM x i hi hcd hd, Option.bind_some, h.isLikelyW hM x j hj hcd hd, Option.bind_some, h.isLikelyW hM x k hk hcd hd, Option.bind_some]
  by_cases q1 : low (sub t c d) = wdl i
  · rw [decide_eq_true q1, if_neg (by decide), if_pos q1]; exact K 0 (by omega)
  · rw [decide_eq_false q1, if_pos (by rfl), if_neg q1]
    by_cases q2 : low (sub t c d) = wdl j
    · rw [decide_eq_true q2, if_neg (by decide), if_pos q2]; exact K 1 (by omega)
    · rw [decide_eq_false q2, if_pos (by rfl), if_neg q2]
      by_cases q3 : low (sub t c d) = wdl k
      · rw [decide_eq_true q3, if_neg (by decide), if_pos q3]; exact K 2 (by omega)
      · rw [decide_eq_false q3, if_pos (by rfl), if_neg q3]
        unfold k_X9_readsChoice_46 k_X9_readsChoice_78
        rw [if_pos h.1, if_pos (by decide), show (8600 : Int32) + nI p = nI (8600 + p) from nI_add 8600 p, if_pos h.a11, if_pos (h.wx (by omega)), h.vl (by omega), ho, h.2.1, h.2.2, if_pos rfl, if_pos ((nI_wix (by omega)).mpr (show 8600 + p < 9000 by omega)), nI_clamp (by omega)]
end
