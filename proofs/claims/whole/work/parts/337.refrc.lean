/-! the reference: reading a cookie, filling the new one -/
def RcE (A B : Hp) (M : Nat) : Prop := Eqx (fun q => q = M ∨ q = M + 1) A B ∧ (∀ f, hgR B f M 0 = hgR A f M 0) ∧ (∀ f, f < 472 → hgI B f M 0 = hgI A f M 0) ∧ ∀ k, k < 8600 → mu B M k = mu A M k
theorem RcE.tr {A B C : Hp} {M : Nat} (h : RcE A B M) (k : RcE B C M) : RcE A C M := ⟨h.1.tr k.1, fun f => (k.2.1 f).trans (h.2.1 f), fun f hf => (k.2.2.1 f hf).trans (h.2.2.1 f hf), fun q hq => (k.2.2.2 q hq).trans (h.2.2.2 q hq)⟩
theorem RdE.rc {A B : Hp} {M : Nat} (h : RdE A B M) : RcE A B M := ⟨h.1, h.2.1, fun f hf => h.2.2.1 f (Or.inl hf), h.2.2.2⟩
theorem RcE.sI {A : Hp} {M f : Nat} {x : Int32} (h1 : 472 ≤ f) : RcE A (hsI A f M 0 x) M := ⟨Eqx.sI (Or.inl rfl), fun _ => rfl, fun f' hf => by rw [hgI_sI, if_neg (by omega)], fun _ _ => rfl⟩
theorem Ms.rc {A B : Hp} {M : Nat} (h : Ms A M) (e : RcE A B M) : Ms B M := ⟨by rw [e.1.2.1]; exact h.1, by rw [e.2.1]; exact h.2.1, by rw [e.1.2.1]; exact h.2.2⟩
theorem Mw.rc {A B : Hp} {M : Nat} (h : Mw A M) (e : RcE A B M) : Mw B M := fun k hk => by
  obtain ⟨h1, h2, h3⟩ := h k hk
  exact ⟨by rw [e.2.1]; exact h1, by rw [e.1.2.1]; exact h2, fun i hi => by rw [e.1.I (by omega)]; exact h3 i hi⟩
theorem Tx.rc {A B : Hp} {M : Nat} {t : List Int32} (x : Tx A M t) (e : RcE A B M) : Tx B M t :=
  ⟨by rw [e.2.2.1 451 (by omega)]; exact x.1, x.2.1, x.2.2.1.congr (fun k h1 h2 => e.2.2.2 k (by have := x.2.1; omega)), x.2.2.2⟩
section
variable {A : Hp} {M : Nat} {t : List Int32}
theorem Ms.rc38 (h : Ms A M) (hM : Mw A M) (x : Tx A M t) (z1 : hgI A 472 M 0 = 0) (z2 : hgI A 474 M 0 = 0) (z3 : hgI A 476 M 0 = 0) (z4 : hgI A 478 M 0 = 0) (m1 : mu A M 8609 = 0) (m2 : mu A M 8610 = 0) : ∃ B, k_X9_readsCookie_38 A M = some B ∧ AtM B M t (rdCk t) ∧ NvM B M t (rdCk t) ∧ RcE A B M := by
  have hx2 := x.2.1
  have le := fnd_le (s := t) (c := 59) (Nat.zero_le t.length)
  have ls := fnd_le (s := t) (c := 61) (Nat.zero_le (fnd t 59 0 t.length))
  have e1 : RcE A (hsL A 1035 (M + 1) 8611 1) M := (RdE.sM (by omega)).rc
  have h1 := h.set (i := 8611) (x := 1)
  have e2 : RcE A (hsL (hsL A 1035 (M + 1) 8611 1) 1035 (M + 1) 8612 1) M := e1.tr (RdE.sM (by omega)).rc
  have h2 := h.rc e2
  have x2 := x.rc e2
  have hm2 := hM.rc e2
  have f1 : mu (hsL (hsL A 1035 (M + 1) 8611 1) 1035 (M + 1) 8612 1) M 8609 = 0 := by rw [mu_set, if_neg (by omega), mu_set, if_neg (by omega)]; exact m1
  have f2 : mu (hsL (hsL A 1035 (M + 1) 8611 1) 1035 (M + 1) 8612 1) M 8610 = 0 := by rw [mu_set, if_neg (by omega), mu_set, if_neg (by omega)]; exact m2
  have f3 : mu (hsL (hsL A 1035 (M + 1) 8611 1) 1035 (M + 1) 8612 1) M 8611 = 1 := by rw [mu_set, if_neg (by omega), mu_set, if_pos rfl]
  have f4 : mu (hsL (hsL A 1035 (M + 1) 8611 1) 1035 (M + 1) 8612 1) M 8612 = 1 := by rw [mu_set, if_pos rfl]
  unfold k_X9_readsCookie_38
  rw [show (8611 : Int32) = nI 8611 from rfl, show (8612 : Int32) = nI 8612 from rfl, h.gd (by omega), h.2.1, nI_clamp (by omega), if_pos h1.a11, if_pos (h1.wx (by omega)), h1.2.1, nI_clamp (by omega), x2.1, show f_X9_find (hsL (hsL A 1035 (M + 1) 8611 1) 1035 (M + 1) 8612 1) M 59 0 (nI t.length) = _ from h2.find x2 59 (Nat.zero_le _) (Nat.le_refl _), Option.bind_some, show f_X9_find (hsL (hsL A 1035 (M + 1) 8611 1) 1035 (M + 1) 8612 1) M 61 0 (nI (fnd t 59 0 t.length)) = _ from h2.find x2 61 (Nat.zero_le _) le.2, Option.bind_some]
  have y1 : hgI (hsL (hsL A 1035 (M + 1) 8611 1) 1035 (M + 1) 8612 1) 472 M 0 = 0 := z1
  have y2 : hgI (hsL (hsL A 1035 (M + 1) 8611 1) 1035 (M + 1) 8612 1) 474 M 0 = 0 := z2
  have y3 : hgI (hsL (hsL A 1035 (M + 1) 8611 1) 1035 (M + 1) 8612 1) 476 M 0 = 0 := z3
  have y4 : hgI (hsL (hsL A 1035 (M + 1) 8611 1) 1035 (M + 1) 8612 1) 478 M 0 = 0 := z4
  generalize hsL (hsL A 1035 (M + 1) 8611 1) 1035 (M + 1) 8612 1 = C at *
  unfold rdCk rdBase
  generalize hE : fnd t 59 0 t.length = e at *
  generalize hS : fnd t 61 0 e = sg at *
  have tf := trF_le (s := t) (a := 0) (b := sg) (Nat.zero_le _)
  have tt := trT_le (s := t) tf.2
  -- the two calls of the name and the value
  have K : ∀ b : Bool, b = decide (sg < e) → ∃ B, k_X9_readsCookie_88 C M (nI e) (nI sg) M (bI b) = some B ∧ AtM B M t (rdLoop t (t.length + 1) e ((trm t 0 sg, gvS t sg e, [], []), (decide (sg < e), none, none), (false, false, 1, 1))) ∧ NvM B M t (rdLoop t (t.length + 1) e ((trm t 0 sg, gvS t sg e, [], []), (decide (sg < e), none, none), (false, false, 1, 1))) ∧ RcE C B M := by
    intro b hb
    let c0 := if sg < e then sg + 1 else e
    have hc0 : c0 ≤ e := by show (if sg < e then sg + 1 else e) ≤ e; split <;> omega
    have cf := trF_le (s := t) hc0
    have ct := trT_le (s := t) cf.2
    have q3 : RcE C (hsI C 481 M 0 (bI b)) M := RcE.sI (by omega)
    have h3 := h2.rc q3
    have x3 := x2.rc q3
    have q4 : RcE C (hsI (hsI C 481 M 0 (bI b)) 482 M 0 (nI (trF t 0 sg))) M := q3.tr (RcE.sI (by omega))
    have h4 := h2.rc q4
    have x4 := x2.rc q4
    have q5 : RcE C (hsI (hsI (hsI C 481 M 0 (bI b)) 482 M 0 (nI (trF t 0 sg))) 483 M 0 (nI (trT t (trF t 0 sg) sg - trF t 0 sg))) M := q4.tr (RcE.sI (by omega))
    have h5 := h2.rc q5
    have x5 := x2.rc q5
    have g5 : ∀ f, f < 481 → hgI (hsI (hsI (hsI C 481 M 0 (bI b)) 482 M 0 (nI (trF t 0 sg))) 483 M 0 (nI (trT t (trF t 0 sg) sg - trF t 0 sg))) f M 0 = hgI C f M 0 := fun f hf => by rw [hgI_sI, if_neg (by omega), hgI_sI, if_neg (by omega), hgI_sI, if_neg (by omega)]
    have k481 : hgI (hsI (hsI (hsI C 481 M 0 (bI b)) 482 M 0 (nI (trF t 0 sg))) 483 M 0 (nI (trT t (trF t 0 sg) sg - trF t 0 sg))) 481 M 0 = bI b := by rw [hgI_sI, if_neg (by omega), hgI_sI, if_neg (by omega), hgI_sI, if_pos ⟨rfl, rfl, rfl⟩]
    have k482 : hgI (hsI (hsI (hsI C 481 M 0 (bI b)) 482 M 0 (nI (trF t 0 sg))) 483 M 0 (nI (trT t (trF t 0 sg) sg - trF t 0 sg))) 482 M 0 = nI (trF t 0 sg) := by rw [hgI_sI, if_neg (by omega), hgI_sI, if_pos ⟨rfl, rfl, rfl⟩]
    have k483 : hgI (hsI (hsI (hsI C 481 M 0 (bI b)) 482 M 0 (nI (trF t 0 sg))) 483 M 0 (nI (trT t (trF t 0 sg) sg - trF t 0 sg))) 483 M 0 = nI (trT t (trF t 0 sg) sg - trF t 0 sg) := by rw [hgI_sI, if_pos ⟨rfl, rfl, rfl⟩]
    have mu5 : ∀ k, mu (hsI (hsI (hsI C 481 M 0 (bI b)) 482 M 0 (nI (trF t 0 sg))) 483 M 0 (nI (trT t (trF t 0 sg) sg - trF t 0 sg))) M k = mu C M k := fun _ => rfl
    have E : k_X9_readsCookie_88 C M (nI e) (nI sg) M (bI b) = k_X9_readsCookie_135 (hsI (hsI (hsI C 481 M 0 (bI b)) 482 M 0 (nI (trF t 0 sg))) 483 M 0 (nI (trT t (trF t 0 sg) sg - trF t 0 sg))) M (nI e) M M (nI c0) := by
      unfold k_X9_readsCookie_88
      rw [if_pos h2.1, if_pos (bI_Z b), if_pos h3.1, show f_X9_trimFrom (hsI C 481 M 0 (bI b)) M 0 (nI sg) = _ from h3.trimFrom x3 (Nat.zero_le _) (by omega), Option.bind_some, show hgI (hsI (hsI C 481 M 0 (bI b)) 482 M 0 (nI (trF t 0 sg))) 482 M 0 = nI (trF t 0 sg) from (by rw [hgI_sI, if_pos ⟨rfl, rfl, rfl⟩]), h4.trimTo x4 tf.2 (by omega), Option.bind_some, pk_sub tt.1, k481]
      by_cases hq : sg < e
      · rw [hb, decide_eq_true hq, if_neg (by decide), show c0 = sg + 1 from if_pos hq, nI_1]
      · rw [hb, decide_eq_false hq, if_pos (by rfl), show c0 = e from if_neg hq]
    rw [E]
    generalize hsI (hsI (hsI C 481 M 0 (bI b)) 482 M 0 (nI (trF t 0 sg))) 483 M 0 (nI (trT t (trF t 0 sg) sg - trF t 0 sg)) = D at *
    have q6 : RcE D (hsI D 484 M 0 (nI (trF t c0 e))) M := RcE.sI (by omega)
    have h6 := h5.rc q6
    have x6 := x5.rc q6
    have q7 : RcE D (hsI (hsI D 484 M 0 (nI (trF t c0 e))) 485 M 0 (nI (trT t (trF t c0 e) e - trF t c0 e))) M := q6.tr (RcE.sI (by omega))
    have h7 := h5.rc q7
    have x7 := x5.rc q7
    have m7 := (hm2.rc q5).rc q7
    have g7 : ∀ f, f < 484 → hgI (hsI (hsI D 484 M 0 (nI (trF t c0 e))) 485 M 0 (nI (trT t (trF t c0 e) e - trF t c0 e))) f M 0 = hgI D f M 0 := fun f hf => by rw [hgI_sI, if_neg (by omega), hgI_sI, if_neg (by omega)]
    have mu7 : ∀ k, mu (hsI (hsI D 484 M 0 (nI (trF t c0 e))) 485 M 0 (nI (trT t (trF t c0 e) e - trF t c0 e))) M k = mu C M k := fun k => mu5 k
    have hgv : gvS t sg e = sub t (trF t c0 e) (trT t (trF t c0 e) e) := by
      unfold gvS trm
      by_cases hq : sg < e
      · rw [if_pos hq, show c0 = sg + 1 from if_pos hq]
      · rw [if_neg hq, show c0 = e from if_neg hq, trF_self, trT_self, sub_nil t (Nat.le_refl _)]
    have hA7 : AtM (hsI (hsI D 484 M 0 (nI (trF t c0 e))) 485 M 0 (nI (trT t (trF t c0 e) e - trF t c0 e))) M t ((trm t 0 sg, gvS t sg e, [], []), (decide (sg < e), none, none), (false, false, 1, 1)) := by
      refine ⟨⟨?_, fun x hx => by cases hx⟩, ⟨?_, fun x hx => by cases hx⟩, ⟨?_, fun hx => absurd rfl hx, Nat.zero_le _⟩, ⟨?_, fun hx => absurd rfl hx, Nat.zero_le _⟩, ?_, ?_, ?_, ?_⟩
      · rw [g7 _ (by omega), g5 _ (by omega), y1]; rfl
      · rw [g7 _ (by omega), g5 _ (by omega), y2]; rfl
      · rw [g7 _ (by omega), g5 _ (by omega), y3]; rfl
      · rw [g7 _ (by omega), g5 _ (by omega), y4]; rfl
      · rw [mu7]; exact f1
      · rw [mu7]; exact f2
      · rw [mu7]; exact f3
      · rw [mu7]; exact f4
    have hN7 : NvM (hsI (hsI D 484 M 0 (nI (trF t c0 e))) 485 M 0 (nI (trT t (trF t c0 e) e - trF t c0 e))) M t ((trm t 0 sg, gvS t sg e, [], []), (decide (sg < e), none, none), (false, false, 1, 1)) := by
      have l1 : (trm t 0 sg).length = trT t (trF t 0 sg) sg - trF t 0 sg := by unfold trm; rw [sub_len]; omega
      have l2 : (gvS t sg e).length = trT t (trF t c0 e) e - trF t c0 e := by rw [hgv, sub_len]; omega
      refine ⟨by rw [g7 _ (by omega), k481, hb], ⟨trF t 0 sg, by rw [g7 _ (by omega), k482], ?_, ?_, ?_⟩, trF t c0 e, by rw [hgI_sI, if_neg (by omega), hgI_sI, if_pos ⟨rfl, rfl, rfl⟩], ?_, ?_, ?_⟩
      · show _ = nI (trm t 0 sg).length
        rw [g7 _ (by omega), k483, l1]
      · show trF t 0 sg + (trm t 0 sg).length ≤ _
        omega
      · exact x7.2.2.1.sub _ _
      · show _ = nI (gvS t sg e).length
        rw [hgI_sI, if_pos ⟨rfl, rfl, rfl⟩, l2]
      · show trF t c0 e + (gvS t sg e).length ≤ _
        omega
      · show Sg _ _ (gvS t sg e)
        rw [hgv]
        exact x7.2.2.1.sub _ _
    obtain ⟨B, b1, b2, b3⟩ := Ms.rdL (t := t) (M := M) (t.length + 1) FU e _ _ (by omega) (by unfold FU; omega) le.2 h7 m7 x7 hA7
    have nv := rdLoop_nv t (t.length + 1) e ((trm t 0 sg, gvS t sg e, [], []), (decide (sg < e), none, none), (false, false, 1, 1))
    refine ⟨B, ?_, b2, ?_, (q5.tr q7).tr b3.rc⟩
    · unfold k_X9_readsCookie_135
      rw [if_pos h5.1, h5.trimFrom x5 hc0 le.2, Option.bind_some, if_pos h5.1, if_pos h6.1, show hgI (hsI D 484 M 0 (nI (trF t c0 e))) 484 M 0 = nI (trF t c0 e) from (by rw [hgI_sI, if_pos ⟨rfl, rfl, rfl⟩]), h6.trimTo x6 cf.2 le.2, Option.bind_some, pk_sub ct.1]
      exact b1
    · have := hN7.re b3 hx2
      unfold NvM at this ⊢
      rw [nv.1, nv.2.1, nv.2.2]
      exact this
  by_cases hq : sg < e
  · rw [if_neg (nI_ge hq (by omega))]
    obtain ⟨B, b1, b2, b3, b4⟩ := K true (decide_eq_true hq).symm
    exact ⟨B, b1, b2, b3, e2.tr b4⟩
  · rw [if_pos (nI_le (by omega) (by omega))]
    obtain ⟨B, b1, b2, b3, b4⟩ := K false (decide_eq_false hq).symm
    exact ⟨B, b1, b2, b3, e2.tr b4⟩
theorem Ms.readsCookie (h : Ms A M) (hM : Mw A M) (x : Tx A M t) : ∃ B, f_X9_readsCookie A M = some B ∧ AtM B M t (rdCk t) ∧ NvM B M t (rdCk t) ∧ RcE A B M := by
  have e1 : RcE A (hsI (hsI (hsI (hsI A 472 M 0 0) 474 M 0 0) 476 M 0 0) 478 M 0 0) M := (((RcE.sI (by omega)).tr (RcE.sI (by omega))).tr (RcE.sI (by omega))).tr (RcE.sI (by omega))
  have h1 := h.rc e1
  have y1 : hgI (hsI (hsI (hsI (hsI A 472 M 0 0) 474 M 0 0) 476 M 0 0) 478 M 0 0) 472 M 0 = 0 := by rw [hgI_sI, if_neg (by omega), hgI_sI, if_neg (by omega), hgI_sI, if_neg (by omega), hgI_sI, if_pos ⟨rfl, rfl, rfl⟩]
  have y2 : hgI (hsI (hsI (hsI (hsI A 472 M 0 0) 474 M 0 0) 476 M 0 0) 478 M 0 0) 474 M 0 = 0 := by rw [hgI_sI, if_neg (by omega), hgI_sI, if_neg (by omega), hgI_sI, if_pos ⟨rfl, rfl, rfl⟩]
  have y3 : hgI (hsI (hsI (hsI (hsI A 472 M 0 0) 474 M 0 0) 476 M 0 0) 478 M 0 0) 476 M 0 = 0 := by rw [hgI_sI, if_neg (by omega), hgI_sI, if_pos ⟨rfl, rfl, rfl⟩]
  have y4 : hgI (hsI (hsI (hsI (hsI A 472 M 0 0) 474 M 0 0) 476 M 0 0) 478 M 0 0) 478 M 0 = 0 := by rw [hgI_sI, if_pos ⟨rfl, rfl, rfl⟩]
  unfold f_X9_readsCookie
  rw [if_pos h.1]
  generalize hsI (hsI (hsI (hsI A 472 M 0 0) 474 M 0 0) 476 M 0 0) 478 M 0 0 = C at *
  have h2 := h1.set (i := 8609) (x := 0)
  have e2 : RcE C (hsL (hsL C 1035 (M + 1) 8609 0) 1035 (M + 1) 8610 0) M := (RdE.sM (by omega)).rc.tr (RdE.sM (by omega)).rc
  rw [if_pos h1.a11, show (8609 : Int32) = nI 8609 from rfl, show (8610 : Int32) = nI 8610 from rfl, if_pos (h1.wx (by omega)), h1.2.1, nI_clamp (by omega), if_pos h2.a11, if_pos (h2.wx (by omega)), h2.2.1, nI_clamp (by omega)]
  obtain ⟨B, b1, b2, b3, b4⟩ := (h1.rc e2).rc38 ((hM.rc e1).rc e2) ((x.rc e1).rc e2) y1 y2 y3 y4 (by rw [mu_set, if_neg (by omega), mu_set, if_pos rfl]) (by rw [mu_set, if_pos rfl])
  exact ⟨B, b1, b2, b3, (e1.tr e2).tr b4⟩
end
