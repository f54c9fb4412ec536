/-! the reference: its face, the rest -/
section
variable {A : Hp} {M : Nat} {t : List Int32} {v : JV} {ms : List CkV} {n : Nat}
theorem R_polBad (h : Ms A M) {l : Int32} (hl : decide (0 ≤ l ∧ l < nI 4) = false) : f_X9_setPolicy A M l = some (0, hsI (hsI A 452 M 0 0) 452 M 0 1) := by
  unfold f_X9_setPolicy
  rw [if_pos h.1, in_, show decide ((0 : Int64) ≤ l.toInt64 ∧ l.toInt64 ≤ (3 : Int64)) = decide (0 ≤ l ∧ l < nI 4) from lkD l (l := 4) (by omega), hl, Option.bind_some, if_pos (by rfl), fails_ (h.t0 0), Option.bind_some]
theorem R_pol (h : Ms A M) (x : Tx A M t) (hJ : JM (mu A M) v ms n) {l : Nat} (hl : l < 4) : ∃ B, f_X9_setPolicy A M (nI l) = some (nI (jP v), B) ∧ RP A B M 0 t (jsP v l) ms n := by
  have h0 := h.t0 0
  have r0 := RP.th x hJ 0
  unfold f_X9_setPolicy
  rw [if_pos h.1, in_, show decide ((0 : Int64) ≤ (nI l).toInt64 ∧ (nI l).toInt64 ≤ (3 : Int64)) = decide (0 ≤ nI l ∧ nI l < nI 4) from lkD (nI l) (l := 4) (by omega), lk_in hl (by omega), Option.bind_some, if_neg (by decide), if_pos h0.a11, if_pos (show wix (4 : Int32) _ from h0.wx (i := 4) (by omega)), show hgL (hsI A 452 M 0 0) 1035 (hgR (hsI A 452 M 0 0) 448 M 0) (4 : Int32).toNatClampNeg = lN (jP v) from (h0.vl (i := 4) (by omega)).trans hJ.1.2.1, lN_i, h0.2.1, nI_l (by omega), show (4 : Int32).toNatClampNeg = 4 by decide]
  have lo : ∀ k, k ≠ 4 → mu (hsL (hsI A 452 M 0 0) 1035 (M + 1) 4 (lN l)) M k = mu A M k := fun k q => by rw [mu_set, if_neg q]; rfl
  refine ⟨_, rfl, r0.tr (RP.go r0.2.2.1 r0.2.1 (Eqx.sL rfl) (fun k hk => by rw [mu_set, if_neg (by omega)]) ?_)⟩
  obtain ⟨⟨⟨a0, a1, a2, a3⟩, a4, a5, a7, a8⟩, b, c, d1, d2, ⟨f1, f2⟩, hc0, hl0⟩ := hJ
  exact ⟨⟨⟨(lo 0 (by omega)).trans a0, (lo 1 (by omega)).trans a1, (lo 2 (by omega)).trans a2, (lo 3 (by omega)).trans a3⟩, by rw [mu_set, if_pos rfl]; rfl, (lo 5 (by omega)).trans a5, (lo 7 (by omega)).trans a7, (lo 8 (by omega)).trans a8⟩, fun j hj => (lo _ (by omega)).trans (b j hj), c.congr (lo 6 (by omega)) (fun k q1 q2 => lo k (by omega)), d1.congr (fun k q1 q2 => lo k (by omega)), d2.congr (fun k q1 q2 => lo k (by omega)), ⟨f1.congr (fun k q1 q2 => lo k (by omega)), f2⟩, fun j hj => (hc0 j hj).congr (fun k q1 q2 => lo k (by omega)), hl0⟩
theorem R_cntBad (h : Ms A M) {l : Int32} (hl : decide (0 ≤ l ∧ l < nI 7) = false) : f_X9_count A M l = some (0, hsI (hsI A 452 M 0 0) 452 M 0 1) := by
  unfold f_X9_count
  rw [if_pos h.1, in_, show decide ((0 : Int64) ≤ l.toInt64 ∧ l.toInt64 ≤ (6 : Int64)) = decide (0 ≤ l ∧ l < nI 7) from lkD l (l := 7) (by omega), hl, Option.bind_some, if_pos (by rfl), fails_ (h.t0 0), Option.bind_some]
theorem R_cnt (h : Ms A M) (hJ : JM (mu A M) v ms n) {l : Nat} (hl : l < 7) : f_X9_count A M (nI l) = some (nI (jK v l), hsI A 452 M 0 0) := by
  have h0 := h.t0 0
  unfold f_X9_count
  rw [if_pos h.1, in_, show decide ((0 : Int64) ≤ (nI l).toInt64 ∧ (nI l).toInt64 ≤ (6 : Int64)) = decide (0 ≤ nI l ∧ nI l < nI 7) from lkD (nI l) (l := 7) (by omega), lk_in hl (by omega), Option.bind_some, if_neg (by decide), if_pos h0.a11, show (10 : Int32) + nI l = nI (10 + l) from nI_add 10 l, if_pos (h0.wx (by omega)), h0.vl (by omega), show mu (hsI A 452 M 0 0) M (10 + l) = lN (jK v l) from hJ.2.1 l hl, lN_i]
theorem R_victim (h : Ms A M) (hJ : JM (mu A M) v ms n) (p : ms.Perm (jC v)) (hs : srt (jC v)) (ho : okm ms) (hp : jP v ≤ 3) : f_X9_victim A M = some (oI (vic (jP v) (jC v) (spB none)), hsI A 452 M 0 0) := by
  have hml := hJ.2.2.2.2.2.2.2
  have h0 := h.t0 0
  have j0 : JM (mu (hsI A 452 M 0 0) M) v ms n := hJ
  have hv := h0.victimBut (f := ck0) (us := []) j0.1.2.2.1 hml j0.2.2.2.2.2.2.1 ho.1 ho.2.1 j0.1.2.1 hp (s := none) (fun m hm => by cases hm) (os := false) (fun z => by cases z) (fun z => by cases z)
  have hf : (fun c : CkV => spB none c && (!false || sameSt [] (cD c) (cD ck0))) = spB none := by
    funext c; rfl
  rw [hf] at hv
  have hv : f_X9_victimBut (hsI A 452 M 0 0) M (-1 : Int64) (0 : Int32) = some (oI (mn (vict (jP v)) ms (spB none))) := hv
  unfold f_X9_victim
  rw [if_pos h.1, hv, Option.bind_some, vic_mn]
  rcases mn_tie (vict_StO (jP v)) p (vict_tot _ (ho.2.2.perm p)) (spB none) with ⟨m1, m2⟩ | ⟨i, j, m1, m2, m3, m4, m5, -⟩
  · rw [m1, m2, if_neg (show ¬ (0 : Int32) ≤ oI none by decide)]
    rfl
  · rw [m1, m2, if_pos (show (0 : Int32) ≤ oI (some i) from nI_pos' (by omega)), show f_X9_indexOf (hsI A 452 M 0 0) M (oI (some i)) = _ from h0.indexOf j0.1.2.2.1 hml j0.2.2.2.2.2.2.1 ho.1 m3, Option.bind_some, m5, rnk_perm p, hs.rnk m4]
    rfl
theorem R_mix (h : Ms A M) (hJ : JM (mu A M) v ms n) (p : ms.Perm (jC v)) (hs : srt (jC v)) (ho : okm ms) (hK : ∀ i, i < 7 → jK v i < 2 ^ 31) : f_X9_fingerprint A M = some (mixJ v, hsI A 452 M 0 0) := by
  have hml := hJ.2.2.2.2.2.2.2
  have hp := p.length_eq
  have h0 := h.t0 0
  have j0 : JM (mu (hsI A 452 M 0 0) M) v ms n := hJ
  have L : ∀ e i fu x, i + e = ms.length → e < fu → k_X9_fingerprint_18 M fu (hsI A 452 M 0 0) x (nI i) = some (mixK (jK v) (((jC v).drop i).foldl (fun x c => mixC c x) x) 7, hsI A 452 M 0 0) := by
    intro e
    induction e with
    | zero =>
      intro i fu x h1 h2
      obtain ⟨fu, rfl⟩ : ∃ f, fu = f + 1 := ⟨fu - 1, by omega⟩
      show k_X9_fingerprint_18s M _ _ _ _ = _
      unfold k_X9_fingerprint_18s
      have hm := h0.mixes (a := 10) (l := [(nI (jK v 0)).toInt64, (nI (jK v 1)).toInt64, (nI (jK v 2)).toInt64, (nI (jK v 3)).toInt64, (nI (jK v 4)).toInt64, (nI (jK v 5)).toInt64, (nI (jK v 6)).toInt64]) (fun i hi => by
        have hi : i < 7 := hi
        rw [show mu (hsI A 452 M 0 0) M (10 + i) = lN (jK v i) from hJ.2.1 i hi, ← nI_l (hK i hi)]
        match i, hi with
        | 0, _ => rfl
        | 1, _ => rfl
        | 2, _ => rfl
        | 3, _ => rfl
        | 4, _ => rfl
        | 5, _ => rfl
        | 6, _ => rfl) (by show 10 + 7 ≤ 9000; omega) x
      rw [show (5 : Int32) = nI 5 from rfl, h0.gd (by omega), h0.vl (by omega), show mu (hsI A 452 M 0 0) M 5 = lN ms.length from hJ.1.2.2.1, nI_l (by omega), if_pos ((lN_le (by omega) (by omega)).mpr (by omega)), show f_X9_mixes (hsI A 452 M 0 0) M x (10 : Int32) (7 : Int64) = _ from hm, Option.bind_some, List.drop_of_length_le (by omega)]
      rfl
    | succ e ih =>
      intro i fu x h1 h2
      obtain ⟨fu, rfl⟩ : ∃ f, fu = f + 1 := ⟨fu - 1, by omega⟩
      obtain ⟨q, q1, q2, q3⟩ := j0.at h0 p hs ho.1 (k := i) (by omega)
      have cq := j0.2.2.2.2.2.2.1 q q2
      have oq := (ho.1 _ (cg_mem q2)).2.2.1
      rw [q3] at cq oq
      have lc := cq.2.2.2.2
      have hst : k_X9_fingerprint_18 M (fu + 1) (hsI A 452 M 0 0) x (nI i) = k_X9_fingerprint_18s M (k_X9_fingerprint_18 M fu) (hsI A 452 M 0 0) x (nI i) := rfl
      have m4 := fun y => h0.mixes (a := 2500 + 140 * q + 4) (l := [cE (cg (jC v) i), cC (cg (jC v) i), cA (cg (jC v) i), lN (cS (cg (jC v) i))]) (fun k hk => by
        have hk : k < 4 := hk
        match k, hk with
        | 0, _ => exact cq.2.1.1
        | 1, _ => exact cq.2.1.2.1
        | 2, _ => exact cq.2.1.2.2.1
        | 3, _ => exact cq.2.1.2.2.2) (by show 2500 + 140 * q + 4 + 4 ≤ 9000; omega) y
      rw [hst]
      unfold k_X9_fingerprint_18s
      rw [show (5 : Int32) = nI 5 from rfl, h0.gd (by omega), h0.vl (by omega), show mu (hsI A 452 M 0 0) M 5 = lN ms.length from hJ.1.2.2.1, nI_l (show i < 2 ^ 31 by omega), if_neg (fun y => by have := (lN_le (by omega) (by omega)).mp y; omega), q1, Option.bind_some, ck_, Option.bind_some, if_pos (h0.wx (by omega)), show nI (2500 + 140 * q) + (14 : Int32) = nI (2500 + 140 * q + 14) from nI_add _ 14, h0.vl (by omega), show mu (hsI A 452 M 0 0) M (2500 + 140 * q) = _ from cq.1.1, h0.mixSg cq.2.2.2.1.1 (by omega), Option.bind_some, show nI (2500 + 140 * q) + (1 : Int32) = nI (2500 + 140 * q + 1) from nI_add _ 1, if_pos (h0.wx (by omega)), show nI (2500 + 140 * q) + (30 : Int32) = nI (2500 + 140 * q + 30) from nI_add _ 30, h0.vl (by omega), show mu (hsI A 452 M 0 0) M (2500 + 140 * q + 1) = _ from cq.1.2.1, h0.mixSg cq.2.2.2.1.2.1 (by omega), Option.bind_some, show nI (2500 + 140 * q) + (2 : Int32) = nI (2500 + 140 * q + 2) from nI_add _ 2, if_pos (h0.wx (by omega)), show nI (2500 + 140 * q) + (62 : Int32) = nI (2500 + 140 * q + 62) from nI_add _ 62, h0.vl (by omega), show mu (hsI A 452 M 0 0) M (2500 + 140 * q + 2) = _ from cq.1.2.2.1, h0.mixSg cq.2.2.2.1.2.2.1 (by omega), Option.bind_some, show nI (2500 + 140 * q) + (3 : Int32) = nI (2500 + 140 * q + 3) from nI_add _ 3, if_pos (h0.wx (by omega)), show nI (2500 + 140 * q) + (92 : Int32) = nI (2500 + 140 * q + 92) from nI_add _ 92, h0.vl (by omega), show mu (hsI A 452 M 0 0) M (2500 + 140 * q + 3) = _ from cq.1.2.2.2, h0.mixSg cq.2.2.2.1.2.2.2 (by omega), Option.bind_some, show nI (2500 + 140 * q) + (4 : Int32) = nI (2500 + 140 * q + 4) from nI_add _ 4, show ∀ y, f_X9_mixes (hsI A 452 M 0 0) M y (nI (2500 + 140 * q + 4)) (4 : Int64) = _ from m4, Option.bind_some, nI_1, ih (i + 1) fu _ (by omega) (by omega), cg_drop (cs := jC v) (i := i) (by omega)]
      show _ = some (mixK (jK v) (((jC v).drop (i + 1)).foldl (fun x c => mixC c x) (mixC (cg (jC v) i) x)) 7, _)
      have e9 : mixC (cg (jC v) i) x = mixL [cE (cg (jC v) i), cC (cg (jC v) i), cA (cg (jC v) i), lN (cS (cg (jC v) i))] (mixS (cP (cg (jC v) i)) (mixS (cD (cg (jC v) i)) (mixS (cV (cg (jC v) i)) (mixS (cN (cg (jC v) i)) x)))) := by
        unfold mixC mixL
        rw [nI_l (show cS (cg (jC v) i) < 2 ^ 31 by omega)]
        rfl
      rw [e9]
  unfold f_X9_fingerprint mixJ
  rw [if_pos h.1, if_pos h0.a11, if_pos (show wix (0 : Int32) _ from h0.wx (i := 0) (by omega)), show hgL (hsI A 452 M 0 0) 1035 (hgR (hsI A 452 M 0 0) 448 M 0) (0 : Int32).toNatClampNeg = jT v from (h0.vl (i := 0) (by omega)).trans hJ.1.1.1, show k_X9_fingerprint_18 M FU (hsI A 452 M 0 0) ((713 : Int64) + jT v) (0 : Int32) = _ from L ms.length 0 FU (713 + jT v) (by omega) (by unfold FU; omega), List.drop_zero]
def jsU (v : JV) (us : SL) : JV := ((v.1.1, us), v.2)
def KpS (A : Hp) (M : Nat) : Prop := hgR A 449 M 0 = M + 2 ∧ hsh A (M + 2) = (11, 16800) ∧ hgR A 450 M 0 = M + 3 ∧ hsh A (M + 3) = (12, 2)
theorem R_savBad (h : Ms A M) {l : Int32} (hl : decide (0 ≤ l ∧ l < nI 2) = false) : f_X9_save A M l = some (0, hsI (hsI A 452 M 0 0) 452 M 0 1) := by
  unfold f_X9_save
  rw [if_pos h.1, in_, show decide ((0 : Int64) ≤ l.toInt64 ∧ l.toInt64 ≤ (1 : Int64)) = decide (0 ≤ l ∧ l < nI 2) from lkD l (l := 2) (by omega), hl, Option.bind_some, if_pos (by rfl), fails_ (h.t0 0), Option.bind_some]
theorem R_sav (h : Ms A M) (hk : KpS A M) (hJ : JM (mu A M) v ms n) {s : Nat} (hs : s < 2) : ∃ B, f_X9_save A M (nI s) = some (nI ms.length, B) ∧ Eqx (fun q => q = M ∨ q = M + 2 ∨ q = M + 3) A B ∧ (∀ f, hgR B f M 0 = hgR A f M 0) ∧ (∀ f, f ≠ 452 → hgI B f M 0 = hgI A f M 0) ∧ hgI B 452 M 0 = 0 ∧ (∀ k, k < 8400 → hgL B 1035 (M + 2) (8400 * s + k) = mu A M k) ∧ (∀ k, k < 8400 * s ∨ 8400 * s + 8400 ≤ k → hgL B 1035 (M + 2) k = hgL A 1035 (M + 2) k) ∧ hgI B 1036 (M + 3) s = 1 ∧ ∀ i, i ≠ s → hgI B 1036 (M + 3) i = hgI A 1036 (M + 3) i := by
  have h0 := h.t0 0
  have k0 : KpS (hsI A 452 M 0 0) M := hk
  have L : ∀ d i fu C, i + d = 8400 → d < fu → Eqx (fun q => q = M + 2) (hsI A 452 M 0 0) C → (∀ k, k < i → hgL C 1035 (M + 2) (8400 * s + k) = mu A M k) → (∀ k, k < 8400 * s ∨ 8400 * s + 8400 ≤ k → hgL C 1035 (M + 2) k = hgL A 1035 (M + 2) k) → ∃ B, k_X9_save_23 M (nI s) fu C (nI i) = some (nI ms.length, hsI B 1036 (M + 3) s 1) ∧ Eqx (fun q => q = M + 2) (hsI A 452 M 0 0) B ∧ (∀ k, k < 8400 → hgL B 1035 (M + 2) (8400 * s + k) = mu A M k) ∧ (∀ k, k < 8400 * s ∨ 8400 * s + 8400 ≤ k → hgL B 1035 (M + 2) k = hgL A 1035 (M + 2) k) := by
    intro d
    induction d with
    | zero =>
      intro i fu C h1 h2 e c1 c2
      obtain ⟨fu, rfl⟩ : ∃ f, fu = f + 1 := ⟨fu - 1, by omega⟩
      have hi : i = 8400 := by omega
      subst hi
      have hC : Ms C M := h0.eq e (by omega)
      have hC1 : Ms (hsI C 1036 (M + 3) s 1) M := hC
      have kC : hgR C 450 M 0 = M + 3 ∧ hsh C (M + 3) = (12, 2) := ⟨by rw [e.R (by omega)]; exact k0.2.2.1, by rw [e.2.1]; exact k0.2.2.2⟩
      refine ⟨C, ?_, e, c1, c2⟩
      show k_X9_save_23s M _ _ _ _ = _
      unfold k_X9_save_23s
      rw [if_pos (show (8400 : Int32) ≤ nI 8400 from Int32.le_rfl), if_pos hC.1, kC.1, kC.2, if_pos rfl, if_pos ((nI_wix (by omega)).mpr (show s < 2 from hs)), nI_clamp (by omega), show vp_nar .boolean (1 : Int32) = 1 by decide, if_pos hC1.a11, if_pos (show wix (5 : Int32) _ from hC1.wx (i := 5) (by omega)), show hgL (hsI C 1036 (M + 3) s 1) 1035 (hgR (hsI C 1036 (M + 3) s 1) 448 M 0) (5 : Int32).toNatClampNeg = lN ms.length from (hC1.vl (i := 5) (by omega)).trans ((e.L (show ¬ M + 1 = M + 2 by omega) 1035 5).trans hJ.1.2.2.1), lN_i]
    | succ d ih =>
      intro i fu C h1 h2 e c1 c2
      obtain ⟨fu, rfl⟩ : ∃ f, fu = f + 1 := ⟨fu - 1, by omega⟩
      have hC : Ms C M := h0.eq e (by omega)
      have kC : hgR C 449 M 0 = M + 2 ∧ hsh C (M + 2) = (11, 16800) := ⟨by rw [e.R (by omega)]; exact k0.1, by rw [e.2.1]; exact k0.2.1⟩
      have e1 : Eqx (fun q => q = M + 2) C (hsL C 1035 (M + 2) (8400 * s + i) (mu A M i)) := Eqx.sL rfl
      obtain ⟨B, b1, b2⟩ := ih (i + 1) fu (hsL C 1035 (M + 2) (8400 * s + i) (mu A M i)) (by omega) (by omega) (e.tr e1) (fun k hk => by
        rw [hgL_sL]
        by_cases z : k = i
        · rw [if_pos ⟨rfl, rfl, by omega⟩, z]
        · rw [if_neg (by omega)]; exact c1 k (by omega)) (fun k hk => by rw [hgL_sL, if_neg (by omega)]; exact c2 k hk)
      refine ⟨B, ?_, b2⟩
      show k_X9_save_23s M _ _ _ _ = _
      unfold k_X9_save_23s
      rw [if_neg (show ¬ (8400 : Int32) ≤ nI i from nI_ge (b := 8400) (by omega) (by omega)), hC.gd (by omega), kC.1, kC.2, if_pos rfl, show (8400 : Int32) * nI s = nI (8400 * s) from nI_mul 8400 s, nI_add, if_pos ((nI_wix (by omega)).mpr (show 8400 * s + i < 16800 by omega)), hC.vl (by omega), nI_clamp (by omega), show mu C M i = mu A M i from e.L (show ¬ M + 1 = M + 2 by omega) 1035 i, nI_1, b1]
  obtain ⟨B, b1, b2, b3, b4⟩ := L 8400 0 FU (hsI A 452 M 0 0) (by omega) (by unfold FU; omega) Eqx.rf (fun k hk => absurd hk (Nat.not_lt_zero k)) (fun k _ => rfl)
  refine ⟨_, ?_, ((Eqx.sI (f := 452) (a := M) (j := 0) (v := 0) (Or.inl rfl)).tr (b2.mo (fun q z => Or.inr (Or.inl z)))).tr (Eqx.sI (f := 1036) (a := M + 3) (j := s) (v := 1) (Or.inr (Or.inr rfl))), fun f => b2.R (by omega) f 0, fun f hf => ?_, ?_, b3, b4, ?_, fun i hi => ?_⟩
  · unfold f_X9_save
    rw [if_pos h.1, in_, show decide ((0 : Int64) ≤ (nI s).toInt64 ∧ (nI s).toInt64 ≤ (1 : Int64)) = decide (0 ≤ nI s ∧ nI s < nI 2) from lkD (nI s) (l := 2) (by omega), lk_in hs (by omega), Option.bind_some, if_neg (by decide)]
    exact b1
  · rw [hgI_sI, if_neg (by omega), b2.I (by omega), hgI_sI, if_neg (fun z => hf z.1)]
  · rw [hgI_sI, if_neg (by omega), b2.I (by omega), hgI_sI, if_pos ⟨rfl, rfl, rfl⟩]
  · rw [hgI_sI, if_pos ⟨rfl, rfl, rfl⟩]
  · rw [hgI_sI, if_neg (fun z => hi z.2.2), b2.I (by omega), hgI_sI, if_neg (by omega)]
theorem R_resBad (h : Ms A M) {l : Int32} (hl : decide (0 ≤ l ∧ l < nI 2) = false) : f_X9_restore A M l = some (0, hsI (hsI A 452 M 0 0) 452 M 0 1) := by
  unfold f_X9_restore
  rw [if_pos h.1, in_, show decide ((0 : Int64) ≤ l.toInt64 ∧ l.toInt64 ≤ (1 : Int64)) = decide (0 ≤ l ∧ l < nI 2) from lkD l (l := 2) (by omega), hl, Option.bind_some, if_pos (by rfl), fails_ (h.t0 0), Option.bind_some]
theorem R_resNone (h : Ms A M) (hk : KpS A M) {s : Nat} (hs : s < 2) (hz : hgI A 1036 (M + 3) s = 0) : f_X9_restore A M (nI s) = some (0, hsI (hsI A 452 M 0 0) 452 M 0 2) := by
  have k0 : KpS (hsI A 452 M 0 0) M := hk
  unfold f_X9_restore
  rw [if_pos h.1, in_, show decide ((0 : Int64) ≤ (nI s).toInt64 ∧ (nI s).toInt64 ≤ (1 : Int64)) = decide (0 ≤ nI s ∧ nI s < nI 2) from lkD (nI s) (l := 2) (by omega), lk_in hs (by omega), Option.bind_some, if_neg (by decide), k0.2.2.1, k0.2.2.2, if_pos rfl, if_pos ((nI_wix (by omega)).mpr (show s < 2 from hs)), nI_clamp (by omega), if_pos (show hgI (hsI A 452 M 0 0) 1036 (M + 3) s = 0 from (by rw [hgI_sI, if_neg (by omega)]; exact hz)), fails_ (h.t0 0), Option.bind_some]
theorem R_res (h : Ms A M) (hk : KpS A M) (x : Tx A M t) {w : JV} {ns : List CkV} {n' : Nat} {s : Nat} (hs : s < 2) (hz : hgI A 1036 (M + 3) s = 1) (hW : JM (fun k => hgL A 1035 (M + 2) (8400 * s + k)) w ns n') : ∃ B, f_X9_restore A M (nI s) = some (nI ns.length, B) ∧ RP A B M 0 t w ns n' := by
  have hne : ¬ oP M M := show ¬ M = M + 1 by omega
  have h0 := h.t0 0
  have k0 : KpS (hsI A 452 M 0 0) M := hk
  have L : ∀ d i fu C, i + d = 8400 → d < fu → Eqx (oP M) (hsI A 452 M 0 0) C → (∀ k, k < i → mu C M k = hgL A 1035 (M + 2) (8400 * s + k)) → (∀ k, 8400 ≤ k → mu C M k = mu A M k) → ∃ B, k_X9_restore_38 M (nI s) fu C (nI i) = some (nI ns.length, B) ∧ Eqx (oP M) (hsI A 452 M 0 0) B ∧ (∀ k, k < 8400 → mu B M k = hgL A 1035 (M + 2) (8400 * s + k)) ∧ (∀ k, 8400 ≤ k → mu B M k = mu A M k) := by
    intro d
    induction d with
    | zero =>
      intro i fu C h1 h2 e c1 c2
      obtain ⟨fu, rfl⟩ : ∃ f, fu = f + 1 := ⟨fu - 1, by omega⟩
      have hi : i = 8400 := by omega
      subst hi
      have hC : Ms C M := h0.eq e hne
      refine ⟨C, ?_, e, c1, c2⟩
      show k_X9_restore_38s M _ _ _ _ = _
      unfold k_X9_restore_38s
      rw [if_pos (show (8400 : Int32) ≤ nI 8400 from Int32.le_rfl), show (5 : Int32) = nI 5 from rfl, hC.gd (by omega), hC.vl (by omega), c1 5 (by omega), show hgL A 1035 (M + 2) (8400 * s + 5) = lN ns.length from hW.1.2.2.1, lN_i]
    | succ d ih =>
      intro i fu C h1 h2 e c1 c2
      obtain ⟨fu, rfl⟩ : ∃ f, fu = f + 1 := ⟨fu - 1, by omega⟩
      have hC : Ms C M := h0.eq e hne
      have kC : hgR C 449 M 0 = M + 2 ∧ hsh C (M + 2) = (11, 16800) := ⟨by rw [e.R hne]; exact k0.1, by rw [e.2.1]; exact k0.2.1⟩
      have e1 : Eqx (oP M) C (hsL C 1035 (M + 1) i (hgL A 1035 (M + 2) (8400 * s + i))) := Eqx.sL rfl
      obtain ⟨B, b1, b2⟩ := ih (i + 1) fu (hsL C 1035 (M + 1) i (hgL A 1035 (M + 2) (8400 * s + i))) (by omega) (by omega) (e.tr e1) (fun k hk => by
        rw [mu_set]
        by_cases z : k = i
        · rw [if_pos z, z]
        · rw [if_neg z]; exact c1 k (by omega)) (fun k hk => by rw [mu_set, if_neg (by omega)]; exact c2 k hk)
      refine ⟨B, ?_, b2⟩
      show k_X9_restore_38s M _ _ _ _ = _
      unfold k_X9_restore_38s
      rw [if_neg (show ¬ (8400 : Int32) ≤ nI i from nI_ge (b := 8400) (by omega) (by omega)), if_pos hC.1, kC.1, kC.2, if_pos rfl, show (8400 : Int32) * nI s = nI (8400 * s) from nI_mul 8400 s, nI_add, if_pos ((nI_wix (by omega)).mpr (show 8400 * s + i < 16800 by omega)), if_pos hC.a11, if_pos (hC.wx (by omega)), nI_clamp (by omega), nI_clamp (by omega), hC.2.1, show hgL C 1035 (M + 2) (8400 * s + i) = hgL A 1035 (M + 2) (8400 * s + i) from e.L (show ¬ M + 2 = M + 1 by omega) 1035 _, nI_1, b1]
  obtain ⟨B, b1, b2, b3, b4⟩ := L 8400 0 FU (hsI A 452 M 0 0) (by omega) (by unfold FU; omega) Eqx.rf (fun k hk => absurd hk (Nat.not_lt_zero k)) (fun k _ => rfl)
  refine ⟨B, ?_, RfE.sI.tr b2.fe, ?_, ?_, hW.congr b3⟩
  · unfold f_X9_restore
    rw [if_pos h.1, in_, show decide ((0 : Int64) ≤ (nI s).toInt64 ∧ (nI s).toInt64 ≤ (1 : Int64)) = decide (0 ≤ nI s ∧ nI s < nI 2) from lkD (nI s) (l := 2) (by omega), lk_in hs (by omega), Option.bind_some, if_neg (by decide), k0.2.2.1, k0.2.2.2, if_pos rfl, if_pos ((nI_wix (by omega)).mpr (show s < 2 from hs)), nI_clamp (by omega), if_neg (show ¬ hgI (hsI A 452 M 0 0) 1036 (M + 3) s = 0 from (by rw [hgI_sI, if_neg (by omega), hz]; decide))]
    exact b1
  · rw [b2.I hne, hgI_sI, if_pos ⟨rfl, rfl, rfl⟩]
  · exact ⟨by rw [b2.I hne, hgI_sI, if_neg (by omega)]; exact x.1, x.2.1, x.2.2.1.congr (fun k h1 _ => b4 k h1), x.2.2.2⟩
theorem JM.sufL (h : Ms A M) (x : Tx A M t) (hJ : JM (mu A M) v ms n) : ∀ (d i fu : Nat) (y : Bool), i + d = (jU v).length → d < fu → ∃ fu', k_X9_addSuffix_19 M fu A (bI y) (nI i) = k_X9_addSuffix_19s M (k_X9_addSuffix_19 M fu') A (bI (y && decide (t ∉ (jU v).drop i))) (nI (jU v).length) := by
  have hU := hJ.2.2.1
  have hl6 := hU.2.1
  have hx2 := x.2.1
  intro d
  induction d with
  | zero =>
    intro i fu y h1 h2
    obtain ⟨fu, rfl⟩ : ∃ f, fu = f + 1 := ⟨fu - 1, by omega⟩
    refine ⟨fu, ?_⟩
    rw [List.drop_of_length_le (by omega), decide_eq_true (fun z => (nomatch z)), Bool.and_true, show i = (jU v).length by omega]
    rfl
  | succ d ih =>
    intro i fu y h1 h2
    obtain ⟨fu, rfl⟩ : ∃ f, fu = f + 1 := ⟨fu - 1, by omega⟩
    obtain ⟨u1, u2, u3, u4⟩ := hU.2.2 i (by omega)
    have hst : k_X9_addSuffix_19 M (fu + 1) A (bI y) (nI i) = k_X9_addSuffix_19s M (k_X9_addSuffix_19 M fu) A (bI y) (nI i) := rfl
    have key : ∀ y' : Bool, y' = (y && decide (sgn (jU v) i ≠ t)) → (y && decide (t ∉ (jU v).drop i)) = (y' && decide (t ∉ (jU v).drop (i + 1))) := by
      intro y' hy
      rw [hy, Bool.and_assoc]
      congr 1
      rw [sgn_drop (show i < (jU v).length by omega), ← Bool.decide_and, decide_eq_decide, List.mem_cons, not_or]
      exact ⟨fun z => ⟨fun w => z.1 w.symm, z.2⟩, fun z => ⟨fun w => z.1 w.symm, z.2⟩⟩
    have step : k_X9_addSuffix_19 M (fu + 1) A (bI y) (nI i) = k_X9_addSuffix_19 M fu A (bI (y && decide (sgn (jU v) i ≠ t))) (nI (i + 1)) := by
      rw [hst]
      unfold k_X9_addSuffix_19s k_X9_addSuffix_73 k_X9_addSuffix_74
      rw [show (6 : Int32) = nI 6 from rfl, h.gd (by omega), h.vl (by omega), hU.1, nI_l (by omega), if_neg (fun z => by have := (lN_le (by omega) (by omega)).mp z; omega), nI_1]
      cases y with
      | false => rw [if_pos (by rfl)]; rfl
      | true =>
        rw [if_neg (by decide), show (32 : Int32) * nI i = nI (32 * i) from nI_mul 32 i, show (180 : Int32) + nI (32 * i) = nI (180 + 32 * i) from nI_add 180 _, if_pos (h.wx (by omega)), h.vl (by omega), u1, lN_i, x.1, show nI (180 + 32 * i) + (1 : Int32) = nI (181 + 32 * i) from (by rw [nI_1, show 180 + 32 * i + 1 = 181 + 32 * i by omega]), show (8400 : Int32) = nI 8400 from rfl, h.areLike u2 x.2.2.1 (by omega) (by omega), Option.bind_some]
        by_cases z : sgn (jU v) i = t
        · rw [decide_eq_true z, if_neg (by decide), decide_eq_false (fun w => w z)]; rfl
        · rw [decide_eq_false z, if_pos (by rfl), decide_eq_true z]; rfl
    obtain ⟨f', e'⟩ := ih (i + 1) fu (y && decide (sgn (jU v) i ≠ t)) (by omega) (by omega)
    exact ⟨f', by rw [step, e', key _ rfl]⟩
theorem R_sufStart (h : Ms A M) (x : Tx A M t) (hJ : JM (mu A M) v ms n) : ∃ fu, f_X9_addSuffix A M = k_X9_addSuffix_19s M (k_X9_addSuffix_19 M fu) (hsI A 452 M 0 0) (bI (isDom t && decide (t ∉ jU v))) (nI (jU v).length) := by
  have h0 := h.t0 0
  have r0 := RP.th x hJ 0
  have x0 := r0.2.2.1
  have hx2 := x.2.1
  have hl6 := hJ.2.2.1.2.1
  obtain ⟨fu, e⟩ := JM.sufL h0 x0 r0.2.2.2 (jU v).length 0 FU (isDom t) (by omega) (by unfold FU; omega)
  rw [List.drop_zero] at e
  refine ⟨fu, ?_⟩
  unfold f_X9_addSuffix
  rw [if_pos h.1, x0.1, show (8400 : Int32) = nI 8400 from rfl, h0.isDomain x0.2.2.1 (by omega), Option.bind_some]
  exact e
theorem R_sufBad (h : Ms A M) (x : Tx A M t) (hJ : JM (mu A M) v ms n) (hb : (isDom t && decide (t ∉ jU v)) = false) : f_X9_addSuffix A M = some (0, hsI (hsI A 452 M 0 0) 452 M 0 1) := by
  have h0 := h.t0 0
  have hU := hJ.2.2.1
  have hl6 := hU.2.1
  obtain ⟨fu, e⟩ := R_sufStart h x hJ
  rw [e, hb]
  unfold k_X9_addSuffix_19s
  rw [show (6 : Int32) = nI 6 from rfl, h0.gd (by omega), h0.vl (by omega), show mu (hsI A 452 M 0 0) M 6 = _ from hU.1, nI_l (by omega), if_pos Int64.le_rfl, if_pos (by rfl), fails_ h0, Option.bind_some]
theorem R_sufFull (h : Ms A M) (x : Tx A M t) (hJ : JM (mu A M) v ms n) (hb : (isDom t && decide (t ∉ jU v)) = true) (hl : (jU v).length = 6) : f_X9_addSuffix A M = some (0, hsI (hsI A 452 M 0 0) 452 M 0 2) := by
  have h0 := h.t0 0
  have hU := hJ.2.2.1
  obtain ⟨fu, e⟩ := R_sufStart h x hJ
  rw [e, hb]
  unfold k_X9_addSuffix_19s
  rw [show (6 : Int32) = nI 6 from rfl, h0.gd (by omega), h0.vl (by omega), show mu (hsI A 452 M 0 0) M 6 = _ from hU.1, nI_l (by omega), if_pos Int64.le_rfl, if_neg (by decide), if_pos (show lN (jU v).length = 6 by rw [hl]; rfl), fails_ h0, Option.bind_some]
theorem R_suf (h : Ms A M) (x : Tx A M t) (hJ : JM (mu A M) v ms n) (hb : (isDom t && decide (t ∉ jU v)) = true) (hl : (jU v).length < 6) : ∃ B, f_X9_addSuffix A M = some (nI ((jU v).length + 1), B) ∧ RP A B M 0 [] (jsU v (jU v ++ [t])) ms n := by
  have hne : ¬ oP M M := show ¬ M = M + 1 by omega
  have h0 := h.t0 0
  have r0 := RP.th x hJ 0
  have x0 := r0.2.2.1
  have hU := hJ.2.2.1
  obtain ⟨d1, d2, d3⟩ := isDom_iff.mp (Bool.and_eq_true_iff.mp hb).1
  obtain ⟨fu, e⟩ := R_sufStart h x hJ
  have e1 : Eqx (oP M) (hsI A 452 M 0 0) (hsL (hsI A 452 M 0 0) 1035 (M + 1) (180 + 32 * (jU v).length) (lN t.length)) := Eqx.sL rfl
  have h1 : Ms (hsL (hsI A 452 M 0 0) 1035 (M + 1) (180 + 32 * (jU v).length) (lN t.length)) M := h0.set
  obtain ⟨B, b1, b2, b3⟩ := h1.copies (f := 8400) (n := t.length) (t := 181 + 32 * (jU v).length) (by omega) (by omega) (by omega)
  have hB : Ms B M := h1.eq b2 hne
  have b6 : mu B M 6 = lN (jU v).length := by rw [b3, if_neg (by omega), mu_set, if_neg (by omega)]; exact hU.1
  have h2 : Ms (hsI (hsL B 1035 (M + 1) 6 (lN ((jU v).length + 1))) 451 M 0 0) M := hB.fe (RfE.sL.tr RfE.sI)
  have h2' : Ms (hsI (hsL B 1035 (M + 1) (nI 6).toNatClampNeg (lN ((jU v).length + 1))) 451 M 0 0) M := hB.fe (RfE.sL.tr RfE.sI)
  have m2 : ∀ k, mu (hsI (hsL B 1035 (M + 1) 6 (lN ((jU v).length + 1))) 451 M 0 0) M k = if k = 6 then lN ((jU v).length + 1) else if 181 + 32 * (jU v).length ≤ k ∧ k < 181 + 32 * (jU v).length + t.length then mu A M (8400 + (k - (181 + 32 * (jU v).length))) else if k = 180 + 32 * (jU v).length then lN t.length else mu A M k := fun k => by
    show mu (hsL B 1035 (M + 1) 6 (lN ((jU v).length + 1))) M k = _
    rw [mu_set, b3, mu_set, mu_set]
    by_cases z : k = 6
    · rw [if_pos z, if_pos z]
    · rw [if_neg z, if_neg z]
      split
      · rw [if_neg (by omega)]; rfl
      · rfl
  refine ⟨hsI (hsL B 1035 (M + 1) 6 (lN ((jU v).length + 1))) 451 M 0 0, ?_, ((RfE.sI.tr e1.fe).tr b2.fe).tr (RfE.sL.tr RfE.sI), ?_, Tx.emp, ?_⟩
  · rw [e, hb]
    unfold k_X9_addSuffix_19s
    rw [show (6 : Int32) = nI 6 from rfl, h0.gd (by omega), h0.vl (by omega), show mu (hsI A 452 M 0 0) M 6 = _ from hU.1, nI_l (show (jU v).length < 2 ^ 31 by omega), if_pos Int64.le_rfl, if_neg (by decide), if_neg (show ¬ lN (jU v).length = 6 from fun z => by have := (lN_eq (b := 6) (by omega) (by omega)).mp z; omega), lN_i, show (32 : Int32) * nI (jU v).length = nI (32 * (jU v).length) from nI_mul 32 _, show (180 : Int32) + nI (32 * (jU v).length) = nI (180 + 32 * (jU v).length) from nI_add 180 _, if_pos (h0.wx (by omega)), nI_clamp (by omega), h0.2.1, x0.1, nI_l (show t.length < 2 ^ 31 by omega), show hgI (hsL (hsI A 452 M 0 0) 1035 (M + 1) (180 + 32 * (jU v).length) (lN t.length)) 451 M 0 = nI t.length from x0.1, show nI (180 + 32 * (jU v).length) + (1 : Int32) = nI (181 + 32 * (jU v).length) from (by rw [nI_1, show 180 + 32 * (jU v).length + 1 = 181 + 32 * (jU v).length by omega]), show (8400 : Int32) = nI 8400 from rfl, b1, Option.bind_some, hB.gd (by omega), hB.vl (by omega), b6, lN_1, hB.2.1, if_pos h2'.a11, if_pos (h2'.wx (by omega)), nI_clamp (show 6 < 2 ^ 31 by omega), show hgL (hsI (hsL B 1035 (M + 1) 6 (lN ((jU v).length + 1))) 451 M 0 0) 1035 (hgR (hsI (hsL B 1035 (M + 1) 6 (lN ((jU v).length + 1))) 451 M 0 0) 448 M 0) 6 = lN ((jU v).length + 1) from (by rw [h2.2.1]; show mu (hsI (hsL B 1035 (M + 1) 6 (lN ((jU v).length + 1))) 451 M 0 0) M 6 = _; rw [m2, if_pos rfl]), lN_i]
  · rw [hgI_sI, if_neg (by omega)]
    show hgI B 452 M 0 = 0
    rw [b2.I hne]
    exact r0.2.1
  · obtain ⟨⟨⟨a0, a1, a2, a3⟩, a4, a5, a7, a8⟩, b, c, q1, q2, ⟨f1, f2⟩, hc0, hl0⟩ := hJ
    generalize hsI (hsL B 1035 (M + 1) 6 (lN ((jU v).length + 1))) 451 M 0 0 = C at *
    have lo : ∀ k, k ≠ 6 → k < 180 ∨ 372 ≤ k → mu C M k = mu A M k := fun k z1 z2 => by rw [m2, if_neg z1, if_neg (by omega), if_neg (by omega)]
    refine ⟨⟨⟨(lo 0 (by omega) (by omega)).trans a0, (lo 1 (by omega) (by omega)).trans a1, (lo 2 (by omega) (by omega)).trans a2, (lo 3 (by omega) (by omega)).trans a3⟩, (lo 4 (by omega) (by omega)).trans a4, (lo 5 (by omega) (by omega)).trans a5, (lo 7 (by omega) (by omega)).trans a7, (lo 8 (by omega) (by omega)).trans a8⟩, fun j hj => (lo _ (by omega) (by omega)).trans (b j hj), ?_, q1.congr (fun k z1 z2 => lo k (by omega) (by omega)), q2.congr (fun k z1 z2 => lo k (by omega) (by omega)), ⟨f1.congr (fun k z1 z2 => lo k (by omega) (by omega)), f2⟩, fun j hj => (hc0 j hj).congr (fun k z1 z2 => lo k (by omega) (by omega)), hl0⟩
    show SuM (mu C M) (jU v ++ [t])
    refine ⟨by rw [m2, if_pos rfl, List.length_append]; rfl, by rw [List.length_append]; show (jU v).length + 1 ≤ 6; omega, fun i hi => ?_⟩
    rw [List.length_append] at hi
    have hi : i < (jU v).length + 1 := hi
    by_cases z : i = (jU v).length
    · have es : sgn (jU v ++ [t]) i = t := by rw [z]; simp [sgn]
      rw [es, z]
      refine ⟨by rw [m2, if_neg (by omega), if_neg (by omega), if_pos rfl], fun k hk => ?_, d1, d2⟩
      rw [m2, if_neg (by omega), if_pos (by omega), show 8400 + (181 + 32 * (jU v).length + k - (181 + 32 * (jU v).length)) = 8400 + k by omega]
      exact x.2.2.1 k hk
    · obtain ⟨u1, u2, u3, u4⟩ := c.2.2 i (by omega)
      rw [sgn_app (by omega)]
      exact ⟨by rw [m2, if_neg (by omega), if_neg (by omega), if_neg (by omega)]; exact u1, u2.congr (fun k z1 z2 => by rw [m2, if_neg (by omega), if_neg (by omega), if_neg (by omega)]), u3, u4⟩
end
