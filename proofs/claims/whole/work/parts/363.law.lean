/-! the law's loop -/
theorem wOut : wix (0 : Int32) ((11, 1) : Nat × Nat).2 := (nI_wix (i := 0) (by omega)).mpr (show 0 < 1 by omega)
section
variable {xs : Nat → Int32} {Ln : Nat} {rec : Hp → Int32 → Option Int32} {A : Hp} {b : Nat} {x4 : Int32}
theorem lw_212 (hT : ST A b) (hb : b < 512) (w1 : wix (x4 + (1 : Int32)) Ln) (w2 : wix (x4 + (2 : Int32)) Ln) (w3 : wix (x4 + (3 : Int32)) Ln) : ∃ A2, k_L_law_212 xs Ln rec A 100 526 549 x4 = rec A2 (x4 + (4 : Int32)) ∧ ST A2 (b + 1) := by
  obtain ⟨k, A1, y, A2, e1, s1, e2, s2, e3, ho, hS⟩ := op_type hT hb (xs (x4 + (1 : Int32)).toNatClampNeg)
  have e2 : f_X9_type A1 526 (xs (x4 + (1 : Int32)).toNatClampNeg) = some (y, A2) := e2
  refine ⟨A2, ?_, hS⟩
  unfold k_L_law_212 k_L_law_2228
  rw [if_pos w1, e1, Option.bind_some, if_pos w1, if_pos s1, e2, Option.bind_some, if_pos s2, e3, Option.bind_some, if_pos rfl]
  by_cases hk : k = 0
  · obtain ⟨o1, o2⟩ := ho hk
    rw [if_pos hk, o1, if_pos rfl, if_pos wOut, o2, if_pos rfl]
  · rw [if_neg hk]
theorem lw_268 (hT : ST A b) (hb : b < 512) (w1 : wix (x4 + (1 : Int32)) Ln) (w2 : wix (x4 + (2 : Int32)) Ln) (w3 : wix (x4 + (3 : Int32)) Ln) : ∃ A2, k_L_law_268 xs Ln rec A 100 526 549 x4 = rec A2 (x4 + (4 : Int32)) ∧ ST A2 (b + 1) := by
  obtain ⟨h7, y, A1, A2, e1, s1, e2, hS⟩ := op_clearText hT hb
  refine ⟨A2, ?_, hS⟩
  unfold k_L_law_268 k_L_law_2228
  rw [if_pos h7, e1, Option.bind_some, if_pos s1, e2, Option.bind_some, if_pos rfl]
theorem lw_281 (hT : ST A b) (hb : b < 512) (w1 : wix (x4 + (1 : Int32)) Ln) (w2 : wix (x4 + (2 : Int32)) Ln) (w3 : wix (x4 + (3 : Int32)) Ln) : ∃ A2, k_L_law_281 xs Ln rec A 100 526 549 x4 = rec A2 (x4 + (4 : Int32)) ∧ ST A2 (b + 1) := by
  obtain ⟨h7, y, A1, A2, e1, s1, e2, hS⟩ := op_openPage hT hb
  refine ⟨A2, ?_, hS⟩
  unfold k_L_law_281 k_L_law_2228
  rw [if_pos h7, e1, Option.bind_some, if_pos s1, e2, Option.bind_some, if_pos rfl]
theorem lw_294 (hT : ST A b) (hb : b < 512) (w1 : wix (x4 + (1 : Int32)) Ln) (w2 : wix (x4 + (2 : Int32)) Ln) (w3 : wix (x4 + (3 : Int32)) Ln) : ∃ A2, k_L_law_294 xs Ln rec A 100 526 549 x4 = rec A2 (x4 + (4 : Int32)) ∧ ST A2 (b + 1) := by
  obtain ⟨h7, y, A1, A2, e1, s1, e2, hS⟩ := op_openRequest hT hb
  refine ⟨A2, ?_, hS⟩
  unfold k_L_law_294 k_L_law_2228
  rw [if_pos h7, e1, Option.bind_some, if_pos s1, e2, Option.bind_some, if_pos rfl]
theorem lw_307 (hT : ST A b) (hb : b < 512) (w1 : wix (x4 + (1 : Int32)) Ln) (w2 : wix (x4 + (2 : Int32)) Ln) (w3 : wix (x4 + (3 : Int32)) Ln) : ∃ A2, k_L_law_307 xs Ln rec A 100 526 549 x4 = rec A2 (x4 + (4 : Int32)) ∧ ST A2 (b + 1) := by
  obtain ⟨k, A1, y, A2, e1, s1, e2, s2, e3, ho, hS⟩ := op_isSameSite hT hb 
  have e2 : f_X9_isSameSite A1 526  = some (y, A2) := e2
  refine ⟨A2, ?_, hS⟩
  unfold k_L_law_307 k_L_law_349 k_L_law_2228
  rw [e1, Option.bind_some, if_pos s1, e2, Option.bind_some, if_pos s2, e3, Option.bind_some, if_pos rfl]
  by_cases hk : k = 0
  · obtain ⟨o1, o2⟩ := ho hk
    rw [if_pos hk, o1, if_pos rfl, if_pos wOut]
    rcases o2 with ⟨y0, o2⟩ | ⟨y0, o2⟩
    · rw [if_pos y0, o2, if_pos rfl]
    · rw [if_neg y0, o2, if_pos rfl]
  · rw [if_neg hk]
theorem lw_358 (hT : ST A b) (hb : b < 512) (w1 : wix (x4 + (1 : Int32)) Ln) (w2 : wix (x4 + (2 : Int32)) Ln) (w3 : wix (x4 + (3 : Int32)) Ln) : ∃ A2, k_L_law_358 xs Ln rec A 100 526 549 x4 = rec A2 (x4 + (4 : Int32)) ∧ ST A2 (b + 1) := by
  obtain ⟨k, A1, y, A2, e1, s1, e2, s2, e3, ho, hS⟩ := op_siteChar hT hb (xs (x4 + (1 : Int32)).toNatClampNeg)
  have e2 : f_X9_siteChar A1 526 (xs (x4 + (1 : Int32)).toNatClampNeg) = some (y, A2) := e2
  refine ⟨A2, ?_, hS⟩
  unfold k_L_law_358 k_L_law_2228
  rw [if_pos w1, e1, Option.bind_some, if_pos w1, if_pos s1, e2, Option.bind_some, if_pos s2, e3, Option.bind_some, if_pos rfl]
  by_cases hk : k = 0
  · obtain ⟨o1, o2⟩ := ho hk
    rw [if_pos hk, o1, if_pos rfl, if_pos wOut, o2, if_pos rfl]
  · rw [if_neg hk]
theorem lw_414 (hT : ST A b) (hb : b < 512) (w1 : wix (x4 + (1 : Int32)) Ln) (w2 : wix (x4 + (2 : Int32)) Ln) (w3 : wix (x4 + (3 : Int32)) Ln) : ∃ A2, k_L_law_414 xs Ln rec A 100 526 549 x4 = rec A2 (x4 + (4 : Int32)) ∧ ST A2 (b + 1) := by
  obtain ⟨k, A1, y, A2, e1, s1, e2, s2, e3, ho, hS⟩ := op_addSuffix hT hb 
  have e2 : f_X9_addSuffix A1 526  = some (y, A2) := e2
  refine ⟨A2, ?_, hS⟩
  unfold k_L_law_414 k_L_law_2228
  rw [e1, Option.bind_some, if_pos s1, e2, Option.bind_some, if_pos s2, e3, Option.bind_some, if_pos rfl]
  by_cases hk : k = 0
  · obtain ⟨o1, o2⟩ := ho hk
    rw [if_pos hk, o1, if_pos rfl, if_pos wOut, o2, if_pos rfl]
  · rw [if_neg hk]
theorem lw_458 (hT : ST A b) (hb : b < 512) (w1 : wix (x4 + (1 : Int32)) Ln) (w2 : wix (x4 + (2 : Int32)) Ln) (w3 : wix (x4 + (3 : Int32)) Ln) : ∃ A2, k_L_law_458 xs Ln rec A 100 526 549 x4 = rec A2 (x4 + (4 : Int32)) ∧ ST A2 (b + 1) := by
  have key : ∀ sc : Bool, (if (xs (x4 + (1 : Int32)).toNatClampNeg) = (0 : Int32) then sc = false else sc = true) → ∃ A2, k_L_law_458 xs Ln rec A 100 526 549 x4 = rec A2 (x4 + (4 : Int32)) ∧ ST A2 (b + 1) := by
    intro sc hsc
    obtain ⟨k, A1, y, A2, e1, s1, e2, s2, e3, ho, hS⟩ := op_receive hT hb sc
    have e2 : f_X9_receive A1 526 (bI sc) = some (y, A2) := e2
    refine ⟨A2, ?_, hS⟩
    have q458 : k_L_law_458 xs Ln rec A 100 526 549 x4 = k_L_law_494 xs Ln rec A1 100 526 549 x4 k 526 (bI sc) := by
      unfold k_L_law_458 k_L_law_473
      rw [if_pos w1]
      by_cases z : (xs (x4 + (1 : Int32)).toNatClampNeg) = (0 : Int32)
      · rw [if_pos z] at hsc ⊢
        rw [hsc] at e1 ⊢
        rw [show f_L_receive A 100 (0 : Int32) 549 = _ from e1, Option.bind_some, if_pos w1, if_pos z]
        rfl
      · rw [if_neg z] at hsc ⊢
        rw [hsc] at e1 ⊢
        rw [show f_L_receive A 100 (1 : Int32) 549 = _ from e1, Option.bind_some, if_pos w1, if_neg z]
        rfl
    rw [q458]
    unfold k_L_law_494 k_L_law_2228
    rw [if_pos s1, e2, Option.bind_some, if_pos s2, e3, Option.bind_some, if_pos rfl]
    by_cases hk : k = 0
    · obtain ⟨o1, o2⟩ := ho hk
      rw [if_pos hk, o1, if_pos rfl, if_pos wOut, o2, if_pos rfl]
    · rw [if_neg hk]
  by_cases z : (xs (x4 + (1 : Int32)).toNatClampNeg) = (0 : Int32)
  · exact key false (by rw [if_pos z])
  · exact key true (by rw [if_neg z])
theorem lw_530 (hT : ST A b) (hb : b < 512) (w1 : wix (x4 + (1 : Int32)) Ln) (w2 : wix (x4 + (2 : Int32)) Ln) (w3 : wix (x4 + (3 : Int32)) Ln) : ∃ A2, k_L_law_530 xs Ln rec A 100 526 549 x4 = rec A2 (x4 + (4 : Int32)) ∧ ST A2 (b + 1) := by
  obtain ⟨k, A1, y, A2, e1, s1, e2, s2, e3, ho, hS⟩ := op_rejection hT hb (xs (x4 + (1 : Int32)).toNatClampNeg)
  have e2 : f_X9_rejection A1 526 (xs (x4 + (1 : Int32)).toNatClampNeg) = some (y, A2) := e2
  refine ⟨A2, ?_, hS⟩
  unfold k_L_law_530 k_L_law_2228
  rw [if_pos w1, e1, Option.bind_some, if_pos w1, if_pos s1, e2, Option.bind_some, if_pos s2, e3, Option.bind_some, if_pos rfl]
  by_cases hk : k = 0
  · obtain ⟨o1, o2⟩ := ho hk
    rw [if_pos hk, o1, if_pos rfl, if_pos wOut, o2, if_pos rfl]
  · rw [if_neg hk]
theorem lw_586 (hT : ST A b) (hb : b < 512) (w1 : wix (x4 + (1 : Int32)) Ln) (w2 : wix (x4 + (2 : Int32)) Ln) (w3 : wix (x4 + (3 : Int32)) Ln) : ∃ A2, k_L_law_586 xs Ln rec A 100 526 549 x4 = rec A2 (x4 + (4 : Int32)) ∧ ST A2 (b + 1) := by
  have key : ∀ nav sc : Bool, (if (xs (x4 + (1 : Int32)).toNatClampNeg) = (0 : Int32) then nav = false else nav = true) → (if (xs (x4 + (2 : Int32)).toNatClampNeg) = (0 : Int32) then sc = false else sc = true) → ∃ A2, k_L_law_586 xs Ln rec A 100 526 549 x4 = rec A2 (x4 + (4 : Int32)) ∧ ST A2 (b + 1) := by
    intro nav sc hnav hsc
    obtain ⟨k, A1, y, A2, e1, s1, e2, s2, e3, ho, hS⟩ := op_send hT hb nav sc
    have e2 : f_X9_send A1 526 (bI nav) (bI sc) = some (y, A2) := e2
    refine ⟨A2, ?_, hS⟩
    have q1 : ∀ (F : Int32 → Option Int32), (if (xs (x4 + (1 : Int32)).toNatClampNeg) = (0 : Int32) then F 0 else F 1) = F (bI nav) := fun F => by
      by_cases z : (xs (x4 + (1 : Int32)).toNatClampNeg) = (0 : Int32)
      · rw [if_pos z] at hnav ⊢; rw [hnav]; rfl
      · rw [if_neg z] at hnav ⊢; rw [hnav]; rfl
    have q2 : ∀ (F : Int32 → Option Int32), (if (xs (x4 + (2 : Int32)).toNatClampNeg) = (0 : Int32) then F 0 else F 1) = F (bI sc) := fun F => by
      by_cases z : (xs (x4 + (2 : Int32)).toNatClampNeg) = (0 : Int32)
      · rw [if_pos z] at hsc ⊢; rw [hsc]; rfl
      · rw [if_neg z] at hsc ⊢; rw [hsc]; rfl
    have a0 : k_L_law_586 xs Ln rec A 100 526 549 x4 = k_L_law_601 xs Ln rec A 100 526 549 x4 100 (bI nav) := by
      unfold k_L_law_586; rw [if_pos w1]; exact q1 (fun z => k_L_law_601 xs Ln rec A 100 526 549 x4 100 z)
    have a1 : k_L_law_601 xs Ln rec A 100 526 549 x4 100 (bI nav) = k_L_law_615 xs Ln rec A 100 526 549 x4 100 (bI nav) (bI sc) := by
      unfold k_L_law_601; rw [if_pos w2]; exact q2 (fun z => k_L_law_615 xs Ln rec A 100 526 549 x4 100 (bI nav) z)
    have a2 : k_L_law_615 xs Ln rec A 100 526 549 x4 100 (bI nav) (bI sc) = k_L_law_636 xs Ln rec A1 100 526 549 x4 k 526 (bI nav) := by
      unfold k_L_law_615; rw [e1, Option.bind_some, if_pos w1]; exact q1 (fun z => k_L_law_636 xs Ln rec A1 100 526 549 x4 k 526 z)
    have a3 : k_L_law_636 xs Ln rec A1 100 526 549 x4 k 526 (bI nav) = k_L_law_650 xs Ln rec A1 100 526 549 x4 k 526 (bI nav) (bI sc) := by
      unfold k_L_law_636; rw [if_pos w2]; exact q2 (fun z => k_L_law_650 xs Ln rec A1 100 526 549 x4 k 526 (bI nav) z)
    rw [a0, a1, a2, a3]
    unfold k_L_law_650 k_L_law_2228
    rw [if_pos s1, e2, Option.bind_some, if_pos s2, e3, Option.bind_some, if_pos rfl]
    by_cases hk : k = 0
    · obtain ⟨o1, o2⟩ := ho hk
      rw [if_pos hk, o1, if_pos rfl, if_pos wOut, o2, if_pos rfl]
    · rw [if_neg hk]
  have ex : ∀ z : Int32, ∃ q : Bool, (if z = (0 : Int32) then q = false else q = true) := fun z => by
    by_cases h : z = 0
    · exact ⟨false, by rw [if_pos h]⟩
    · exact ⟨true, by rw [if_neg h]⟩
  obtain ⟨n1, h1⟩ := ex (xs (x4 + (1 : Int32)).toNatClampNeg)
  obtain ⟨n2, h2⟩ := ex (xs (x4 + (2 : Int32)).toNatClampNeg)
  exact key n1 n2 h1 h2
theorem lw_686 (hT : ST A b) (hb : b < 512) (w1 : wix (x4 + (1 : Int32)) Ln) (w2 : wix (x4 + (2 : Int32)) Ln) (w3 : wix (x4 + (3 : Int32)) Ln) : ∃ A2, k_L_law_686 xs Ln rec A 100 526 549 x4 = rec A2 (x4 + (4 : Int32)) ∧ ST A2 (b + 1) := by
  obtain ⟨k, A1, y, A2, e1, s1, e2, s2, e3, ho, hS⟩ := op_headerChar hT hb (xs (x4 + (1 : Int32)).toNatClampNeg)
  have e2 : f_X9_headerChar A1 526 (xs (x4 + (1 : Int32)).toNatClampNeg) = some (y, A2) := e2
  refine ⟨A2, ?_, hS⟩
  unfold k_L_law_686 k_L_law_2228
  rw [if_pos w1, e1, Option.bind_some, if_pos w1, if_pos s1, e2, Option.bind_some, if_pos s2, e3, Option.bind_some, if_pos rfl]
  by_cases hk : k = 0
  · obtain ⟨o1, o2⟩ := ho hk
    rw [if_pos hk, o1, if_pos rfl, if_pos wOut, o2, if_pos rfl]
  · rw [if_neg hk]
theorem lw_742 (hT : ST A b) (hb : b < 512) (w1 : wix (x4 + (1 : Int32)) Ln) (w2 : wix (x4 + (2 : Int32)) Ln) (w3 : wix (x4 + (3 : Int32)) Ln) : ∃ A2, k_L_law_742 xs Ln rec A 100 526 549 x4 = rec A2 (x4 + (4 : Int32)) ∧ ST A2 (b + 1) := by
  have key : ∀ nav sc : Bool, (if (xs (x4 + (2 : Int32)).toNatClampNeg) = (0 : Int32) then nav = false else nav = true) → (if (xs (x4 + (3 : Int32)).toNatClampNeg) = (0 : Int32) then sc = false else sc = true) → ∃ A2, k_L_law_742 xs Ln rec A 100 526 549 x4 = rec A2 (x4 + (4 : Int32)) ∧ ST A2 (b + 1) := by
    intro nav sc hnav hsc
    obtain ⟨k, A1, y, A2, e1, s1, e2, s2, e3, ho, hS⟩ := op_wouldSend hT hb (xs (x4 + (1 : Int32)).toNatClampNeg) nav sc
    have e2 : f_X9_wouldSend A1 526 (xs (x4 + (1 : Int32)).toNatClampNeg) (bI nav) (bI sc) = some (y, A2) := e2
    refine ⟨A2, ?_, hS⟩
    have q1 : ∀ (F : Int32 → Option Int32), (if (xs (x4 + (2 : Int32)).toNatClampNeg) = (0 : Int32) then F 0 else F 1) = F (bI nav) := fun F => by
      by_cases z : (xs (x4 + (2 : Int32)).toNatClampNeg) = (0 : Int32)
      · rw [if_pos z] at hnav ⊢; rw [hnav]; rfl
      · rw [if_neg z] at hnav ⊢; rw [hnav]; rfl
    have q2 : ∀ (F : Int32 → Option Int32), (if (xs (x4 + (3 : Int32)).toNatClampNeg) = (0 : Int32) then F 0 else F 1) = F (bI sc) := fun F => by
      by_cases z : (xs (x4 + (3 : Int32)).toNatClampNeg) = (0 : Int32)
      · rw [if_pos z] at hsc ⊢; rw [hsc]; rfl
      · rw [if_neg z] at hsc ⊢; rw [hsc]; rfl
    have a0 : k_L_law_742 xs Ln rec A 100 526 549 x4 = k_L_law_763 xs Ln rec A 100 526 549 x4 100 (xs (x4 + (1 : Int32)).toNatClampNeg) (bI nav) := by
      unfold k_L_law_742; rw [if_pos w1, if_pos w2]; exact q1 (fun z => k_L_law_763 xs Ln rec A 100 526 549 x4 100 (xs (x4 + (1 : Int32)).toNatClampNeg) z)
    have a1 : k_L_law_763 xs Ln rec A 100 526 549 x4 100 (xs (x4 + (1 : Int32)).toNatClampNeg) (bI nav) = k_L_law_777 xs Ln rec A 100 526 549 x4 100 (xs (x4 + (1 : Int32)).toNatClampNeg) (bI nav) (bI sc) := by
      unfold k_L_law_763; rw [if_pos w3]; exact q2 (fun z => k_L_law_777 xs Ln rec A 100 526 549 x4 100 (xs (x4 + (1 : Int32)).toNatClampNeg) (bI nav) z)
    have a2 : k_L_law_777 xs Ln rec A 100 526 549 x4 100 (xs (x4 + (1 : Int32)).toNatClampNeg) (bI nav) (bI sc) = k_L_law_804 xs Ln rec A1 100 526 549 x4 k 526 (xs (x4 + (1 : Int32)).toNatClampNeg) (bI nav) := by
      unfold k_L_law_777; rw [e1, Option.bind_some, if_pos w1, if_pos w2]; exact q1 (fun z => k_L_law_804 xs Ln rec A1 100 526 549 x4 k 526 (xs (x4 + (1 : Int32)).toNatClampNeg) z)
    have a3 : k_L_law_804 xs Ln rec A1 100 526 549 x4 k 526 (xs (x4 + (1 : Int32)).toNatClampNeg) (bI nav) = k_L_law_818 xs Ln rec A1 100 526 549 x4 k 526 (xs (x4 + (1 : Int32)).toNatClampNeg) (bI nav) (bI sc) := by
      unfold k_L_law_804; rw [if_pos w3]; exact q2 (fun z => k_L_law_818 xs Ln rec A1 100 526 549 x4 k 526 (xs (x4 + (1 : Int32)).toNatClampNeg) (bI nav) z)
    rw [a0, a1, a2, a3]
    unfold k_L_law_818 k_L_law_852 k_L_law_2228
    rw [if_pos s1, e2, Option.bind_some, if_pos s2, e3, Option.bind_some, if_pos rfl]
    by_cases hk : k = 0
    · obtain ⟨o1, o2⟩ := ho hk
      rw [if_pos hk, o1, if_pos rfl, if_pos wOut]
      rcases o2 with ⟨y0, o2⟩ | ⟨y0, o2⟩
      · rw [if_pos y0, o2, if_pos rfl]
      · rw [if_neg y0, o2, if_pos rfl]
    · rw [if_neg hk]
  have ex : ∀ z : Int32, ∃ q : Bool, (if z = (0 : Int32) then q = false else q = true) := fun z => by
    by_cases h : z = 0
    · exact ⟨false, by rw [if_pos h]⟩
    · exact ⟨true, by rw [if_neg h]⟩
  obtain ⟨n1, h1⟩ := ex (xs (x4 + (2 : Int32)).toNatClampNeg)
  obtain ⟨n2, h2⟩ := ex (xs (x4 + (3 : Int32)).toNatClampNeg)
  exact key n1 n2 h1 h2
theorem lw_861 (hT : ST A b) (hb : b < 512) (w1 : wix (x4 + (1 : Int32)) Ln) (w2 : wix (x4 + (2 : Int32)) Ln) (w3 : wix (x4 + (3 : Int32)) Ln) : ∃ A2, k_L_law_861 xs Ln rec A 100 526 549 x4 = rec A2 (x4 + (4 : Int32)) ∧ ST A2 (b + 1) := by
  obtain ⟨h7, y, A2, e1, s1, e2, hS⟩ := op_cookies hT hb
  refine ⟨A2, ?_, hS⟩
  unfold k_L_law_861 k_L_law_2228
  rw [if_pos h7, e1, Option.bind_some, if_pos s1, e2, Option.bind_some, if_pos rfl]
theorem lw_874 (hT : ST A b) (hb : b < 512) (w1 : wix (x4 + (1 : Int32)) Ln) (w2 : wix (x4 + (2 : Int32)) Ln) (w3 : wix (x4 + (3 : Int32)) Ln) : ∃ A2, k_L_law_874 xs Ln rec A 100 526 549 x4 = rec A2 (x4 + (4 : Int32)) ∧ ST A2 (b + 1) := by
  obtain ⟨k, A1, y, A2, e1, s1, e2, s2, e3, ho, hS⟩ := op_nameChar hT hb (xs (x4 + (1 : Int32)).toNatClampNeg) (xs (x4 + (2 : Int32)).toNatClampNeg)
  have e2 : f_X9_nameChar A1 526 (xs (x4 + (1 : Int32)).toNatClampNeg) (xs (x4 + (2 : Int32)).toNatClampNeg) = some (y, A2) := e2
  refine ⟨A2, ?_, hS⟩
  unfold k_L_law_874 k_L_law_2228
  rw [if_pos w1, if_pos w2, e1, Option.bind_some, if_pos w1, if_pos w2, if_pos s1, e2, Option.bind_some, if_pos s2, e3, Option.bind_some, if_pos rfl]
  by_cases hk : k = 0
  · obtain ⟨o1, o2⟩ := ho hk
    rw [if_pos hk, o1, if_pos rfl, if_pos wOut, o2, if_pos rfl]
  · rw [if_neg hk]
theorem lw_942 (hT : ST A b) (hb : b < 512) (w1 : wix (x4 + (1 : Int32)) Ln) (w2 : wix (x4 + (2 : Int32)) Ln) (w3 : wix (x4 + (3 : Int32)) Ln) : ∃ A2, k_L_law_942 xs Ln rec A 100 526 549 x4 = rec A2 (x4 + (4 : Int32)) ∧ ST A2 (b + 1) := by
  obtain ⟨k, A1, y, A2, e1, s1, e2, s2, e3, ho, hS⟩ := op_valueChar hT hb (xs (x4 + (1 : Int32)).toNatClampNeg) (xs (x4 + (2 : Int32)).toNatClampNeg)
  have e2 : f_X9_valueChar A1 526 (xs (x4 + (1 : Int32)).toNatClampNeg) (xs (x4 + (2 : Int32)).toNatClampNeg) = some (y, A2) := e2
  refine ⟨A2, ?_, hS⟩
  unfold k_L_law_942 k_L_law_2228
  rw [if_pos w1, if_pos w2, e1, Option.bind_some, if_pos w1, if_pos w2, if_pos s1, e2, Option.bind_some, if_pos s2, e3, Option.bind_some, if_pos rfl]
  by_cases hk : k = 0
  · obtain ⟨o1, o2⟩ := ho hk
    rw [if_pos hk, o1, if_pos rfl, if_pos wOut, o2, if_pos rfl]
  · rw [if_neg hk]
theorem lw_1010 (hT : ST A b) (hb : b < 512) (w1 : wix (x4 + (1 : Int32)) Ln) (w2 : wix (x4 + (2 : Int32)) Ln) (w3 : wix (x4 + (3 : Int32)) Ln) : ∃ A2, k_L_law_1010 xs Ln rec A 100 526 549 x4 = rec A2 (x4 + (4 : Int32)) ∧ ST A2 (b + 1) := by
  obtain ⟨k, A1, y, A2, e1, s1, e2, s2, e3, ho, hS⟩ := op_domainChar hT hb (xs (x4 + (1 : Int32)).toNatClampNeg) (xs (x4 + (2 : Int32)).toNatClampNeg)
  have e2 : f_X9_domainChar A1 526 (xs (x4 + (1 : Int32)).toNatClampNeg) (xs (x4 + (2 : Int32)).toNatClampNeg) = some (y, A2) := e2
  refine ⟨A2, ?_, hS⟩
  unfold k_L_law_1010 k_L_law_2228
  rw [if_pos w1, if_pos w2, e1, Option.bind_some, if_pos w1, if_pos w2, if_pos s1, e2, Option.bind_some, if_pos s2, e3, Option.bind_some, if_pos rfl]
  by_cases hk : k = 0
  · obtain ⟨o1, o2⟩ := ho hk
    rw [if_pos hk, o1, if_pos rfl, if_pos wOut, o2, if_pos rfl]
  · rw [if_neg hk]
theorem lw_1078 (hT : ST A b) (hb : b < 512) (w1 : wix (x4 + (1 : Int32)) Ln) (w2 : wix (x4 + (2 : Int32)) Ln) (w3 : wix (x4 + (3 : Int32)) Ln) : ∃ A2, k_L_law_1078 xs Ln rec A 100 526 549 x4 = rec A2 (x4 + (4 : Int32)) ∧ ST A2 (b + 1) := by
  obtain ⟨k, A1, y, A2, e1, s1, e2, s2, e3, ho, hS⟩ := op_pathChar hT hb (xs (x4 + (1 : Int32)).toNatClampNeg) (xs (x4 + (2 : Int32)).toNatClampNeg)
  have e2 : f_X9_pathChar A1 526 (xs (x4 + (1 : Int32)).toNatClampNeg) (xs (x4 + (2 : Int32)).toNatClampNeg) = some (y, A2) := e2
  refine ⟨A2, ?_, hS⟩
  unfold k_L_law_1078 k_L_law_2228
  rw [if_pos w1, if_pos w2, e1, Option.bind_some, if_pos w1, if_pos w2, if_pos s1, e2, Option.bind_some, if_pos s2, e3, Option.bind_some, if_pos rfl]
  by_cases hk : k = 0
  · obtain ⟨o1, o2⟩ := ho hk
    rw [if_pos hk, o1, if_pos rfl, if_pos wOut, o2, if_pos rfl]
  · rw [if_neg hk]
theorem lw_1146 (hT : ST A b) (hb : b < 512) (w1 : wix (x4 + (1 : Int32)) Ln) (w2 : wix (x4 + (2 : Int32)) Ln) (w3 : wix (x4 + (3 : Int32)) Ln) : ∃ A2, k_L_law_1146 xs Ln rec A 100 526 549 x4 = rec A2 (x4 + (4 : Int32)) ∧ ST A2 (b + 1) := by
  obtain ⟨k, A1, y, A2, e1, s1, e2, s2, e3, ho, hS⟩ := op_expiry hT hb (xs (x4 + (1 : Int32)).toNatClampNeg)
  have e2 : f_X9_expiry A1 526 (xs (x4 + (1 : Int32)).toNatClampNeg) = some (y, A2) := e2
  refine ⟨A2, ?_, hS⟩
  unfold k_L_law_1146 k_L_law_2228
  rw [if_pos w1, e1, Option.bind_some, if_pos w1, if_pos s1, e2, Option.bind_some, if_pos s2, e3, Option.bind_some, if_pos rfl]
  by_cases hk : k = 0
  · obtain ⟨o1, o2⟩ := ho hk
    rw [if_pos hk, o1, if_pos rfl, if_pos wOut, o2, if_pos rfl]
  · rw [if_neg hk]
theorem lw_1201 (hT : ST A b) (hb : b < 512) (w1 : wix (x4 + (1 : Int32)) Ln) (w2 : wix (x4 + (2 : Int32)) Ln) (w3 : wix (x4 + (3 : Int32)) Ln) : ∃ A2, k_L_law_1201 xs Ln rec A 100 526 549 x4 = rec A2 (x4 + (4 : Int32)) ∧ ST A2 (b + 1) := by
  obtain ⟨k, A1, y, A2, e1, s1, e2, s2, e3, ho, hS⟩ := op_created hT hb (xs (x4 + (1 : Int32)).toNatClampNeg)
  have e2 : f_X9_created A1 526 (xs (x4 + (1 : Int32)).toNatClampNeg) = some (y, A2) := e2
  refine ⟨A2, ?_, hS⟩
  unfold k_L_law_1201 k_L_law_2228
  rw [if_pos w1, e1, Option.bind_some, if_pos w1, if_pos s1, e2, Option.bind_some, if_pos s2, e3, Option.bind_some, if_pos rfl]
  by_cases hk : k = 0
  · obtain ⟨o1, o2⟩ := ho hk
    rw [if_pos hk, o1, if_pos rfl, if_pos wOut, o2, if_pos rfl]
  · rw [if_neg hk]
theorem lw_1256 (hT : ST A b) (hb : b < 512) (w1 : wix (x4 + (1 : Int32)) Ln) (w2 : wix (x4 + (2 : Int32)) Ln) (w3 : wix (x4 + (3 : Int32)) Ln) : ∃ A2, k_L_law_1256 xs Ln rec A 100 526 549 x4 = rec A2 (x4 + (4 : Int32)) ∧ ST A2 (b + 1) := by
  obtain ⟨k, A1, y, A2, e1, s1, e2, s2, e3, ho, hS⟩ := op_accessed hT hb (xs (x4 + (1 : Int32)).toNatClampNeg)
  have e2 : f_X9_accessed A1 526 (xs (x4 + (1 : Int32)).toNatClampNeg) = some (y, A2) := e2
  refine ⟨A2, ?_, hS⟩
  unfold k_L_law_1256 k_L_law_2228
  rw [if_pos w1, e1, Option.bind_some, if_pos w1, if_pos s1, e2, Option.bind_some, if_pos s2, e3, Option.bind_some, if_pos rfl]
  by_cases hk : k = 0
  · obtain ⟨o1, o2⟩ := ho hk
    rw [if_pos hk, o1, if_pos rfl, if_pos wOut, o2, if_pos rfl]
  · rw [if_neg hk]
theorem lw_1311 (hT : ST A b) (hb : b < 512) (w1 : wix (x4 + (1 : Int32)) Ln) (w2 : wix (x4 + (2 : Int32)) Ln) (w3 : wix (x4 + (3 : Int32)) Ln) : ∃ A2, k_L_law_1311 xs Ln rec A 100 526 549 x4 = rec A2 (x4 + (4 : Int32)) ∧ ST A2 (b + 1) := by
  obtain ⟨k, A1, y, A2, e1, s1, e2, s2, e3, ho, hS⟩ := op_serial hT hb (xs (x4 + (1 : Int32)).toNatClampNeg)
  have e2 : f_X9_serial A1 526 (xs (x4 + (1 : Int32)).toNatClampNeg) = some (y, A2) := e2
  refine ⟨A2, ?_, hS⟩
  unfold k_L_law_1311 k_L_law_2228
  rw [if_pos w1, e1, Option.bind_some, if_pos w1, if_pos s1, e2, Option.bind_some, if_pos s2, e3, Option.bind_some, if_pos rfl]
  by_cases hk : k = 0
  · obtain ⟨o1, o2⟩ := ho hk
    rw [if_pos hk, o1, if_pos rfl, if_pos wOut, o2, if_pos rfl]
  · rw [if_neg hk]
theorem lw_1367 (hT : ST A b) (hb : b < 512) (w1 : wix (x4 + (1 : Int32)) Ln) (w2 : wix (x4 + (2 : Int32)) Ln) (w3 : wix (x4 + (3 : Int32)) Ln) : ∃ A2, k_L_law_1367 xs Ln rec A 100 526 549 x4 = rec A2 (x4 + (4 : Int32)) ∧ ST A2 (b + 1) := by
  obtain ⟨k, A1, y, A2, e1, s1, e2, s2, e3, ho, hS⟩ := op_isHostOnly hT hb (xs (x4 + (1 : Int32)).toNatClampNeg)
  have e2 : f_X9_isHostOnly A1 526 (xs (x4 + (1 : Int32)).toNatClampNeg) = some (y, A2) := e2
  refine ⟨A2, ?_, hS⟩
  unfold k_L_law_1367 k_L_law_1421 k_L_law_2228
  rw [if_pos w1, e1, Option.bind_some, if_pos w1, if_pos s1, e2, Option.bind_some, if_pos s2, e3, Option.bind_some, if_pos rfl]
  by_cases hk : k = 0
  · obtain ⟨o1, o2⟩ := ho hk
    rw [if_pos hk, o1, if_pos rfl, if_pos wOut]
    rcases o2 with ⟨y0, o2⟩ | ⟨y0, o2⟩
    · rw [if_pos y0, o2, if_pos rfl]
    · rw [if_neg y0, o2, if_pos rfl]
  · rw [if_neg hk]
theorem lw_1430 (hT : ST A b) (hb : b < 512) (w1 : wix (x4 + (1 : Int32)) Ln) (w2 : wix (x4 + (2 : Int32)) Ln) (w3 : wix (x4 + (3 : Int32)) Ln) : ∃ A2, k_L_law_1430 xs Ln rec A 100 526 549 x4 = rec A2 (x4 + (4 : Int32)) ∧ ST A2 (b + 1) := by
  obtain ⟨k, A1, y, A2, e1, s1, e2, s2, e3, ho, hS⟩ := op_isSecure hT hb (xs (x4 + (1 : Int32)).toNatClampNeg)
  have e2 : f_X9_isSecure A1 526 (xs (x4 + (1 : Int32)).toNatClampNeg) = some (y, A2) := e2
  refine ⟨A2, ?_, hS⟩
  unfold k_L_law_1430 k_L_law_1484 k_L_law_2228
  rw [if_pos w1, e1, Option.bind_some, if_pos w1, if_pos s1, e2, Option.bind_some, if_pos s2, e3, Option.bind_some, if_pos rfl]
  by_cases hk : k = 0
  · obtain ⟨o1, o2⟩ := ho hk
    rw [if_pos hk, o1, if_pos rfl, if_pos wOut]
    rcases o2 with ⟨y0, o2⟩ | ⟨y0, o2⟩
    · rw [if_pos y0, o2, if_pos rfl]
    · rw [if_neg y0, o2, if_pos rfl]
  · rw [if_neg hk]
theorem lw_1493 (hT : ST A b) (hb : b < 512) (w1 : wix (x4 + (1 : Int32)) Ln) (w2 : wix (x4 + (2 : Int32)) Ln) (w3 : wix (x4 + (3 : Int32)) Ln) : ∃ A2, k_L_law_1493 xs Ln rec A 100 526 549 x4 = rec A2 (x4 + (4 : Int32)) ∧ ST A2 (b + 1) := by
  obtain ⟨k, A1, y, A2, e1, s1, e2, s2, e3, ho, hS⟩ := op_isHttpOnly hT hb (xs (x4 + (1 : Int32)).toNatClampNeg)
  have e2 : f_X9_isHttpOnly A1 526 (xs (x4 + (1 : Int32)).toNatClampNeg) = some (y, A2) := e2
  refine ⟨A2, ?_, hS⟩
  unfold k_L_law_1493 k_L_law_1547 k_L_law_2228
  rw [if_pos w1, e1, Option.bind_some, if_pos w1, if_pos s1, e2, Option.bind_some, if_pos s2, e3, Option.bind_some, if_pos rfl]
  by_cases hk : k = 0
  · obtain ⟨o1, o2⟩ := ho hk
    rw [if_pos hk, o1, if_pos rfl, if_pos wOut]
    rcases o2 with ⟨y0, o2⟩ | ⟨y0, o2⟩
    · rw [if_pos y0, o2, if_pos rfl]
    · rw [if_neg y0, o2, if_pos rfl]
  · rw [if_neg hk]
theorem lw_1556 (hT : ST A b) (hb : b < 512) (w1 : wix (x4 + (1 : Int32)) Ln) (w2 : wix (x4 + (2 : Int32)) Ln) (w3 : wix (x4 + (3 : Int32)) Ln) : ∃ A2, k_L_law_1556 xs Ln rec A 100 526 549 x4 = rec A2 (x4 + (4 : Int32)) ∧ ST A2 (b + 1) := by
  obtain ⟨k, A1, y, A2, e1, s1, e2, s2, e3, ho, hS⟩ := op_sameSite hT hb (xs (x4 + (1 : Int32)).toNatClampNeg)
  have e2 : f_X9_sameSite A1 526 (xs (x4 + (1 : Int32)).toNatClampNeg) = some (y, A2) := e2
  refine ⟨A2, ?_, hS⟩
  unfold k_L_law_1556 k_L_law_2228
  rw [if_pos w1, e1, Option.bind_some, if_pos w1, if_pos s1, e2, Option.bind_some, if_pos s2, e3, Option.bind_some, if_pos rfl]
  by_cases hk : k = 0
  · obtain ⟨o1, o2⟩ := ho hk
    rw [if_pos hk, o1, if_pos rfl, if_pos wOut, o2, if_pos rfl]
  · rw [if_neg hk]
theorem lw_1612 (hT : ST A b) (hb : b < 512) (w1 : wix (x4 + (1 : Int32)) Ln) (w2 : wix (x4 + (2 : Int32)) Ln) (w3 : wix (x4 + (3 : Int32)) Ln) : ∃ A2, k_L_law_1612 xs Ln rec A 100 526 549 x4 = rec A2 (x4 + (4 : Int32)) ∧ ST A2 (b + 1) := by
  obtain ⟨k, A1, y, A2, e1, s1, e2, s2, e3, ho, hS⟩ := op_priority hT hb (xs (x4 + (1 : Int32)).toNatClampNeg)
  have e2 : f_X9_priority A1 526 (xs (x4 + (1 : Int32)).toNatClampNeg) = some (y, A2) := e2
  refine ⟨A2, ?_, hS⟩
  unfold k_L_law_1612 k_L_law_2228
  rw [if_pos w1, e1, Option.bind_some, if_pos w1, if_pos s1, e2, Option.bind_some, if_pos s2, e3, Option.bind_some, if_pos rfl]
  by_cases hk : k = 0
  · obtain ⟨o1, o2⟩ := ho hk
    rw [if_pos hk, o1, if_pos rfl, if_pos wOut, o2, if_pos rfl]
  · rw [if_neg hk]
theorem lw_1668 (hT : ST A b) (hb : b < 512) (w1 : wix (x4 + (1 : Int32)) Ln) (w2 : wix (x4 + (2 : Int32)) Ln) (w3 : wix (x4 + (3 : Int32)) Ln) : ∃ A2, k_L_law_1668 xs Ln rec A 100 526 549 x4 = rec A2 (x4 + (4 : Int32)) ∧ ST A2 (b + 1) := by
  obtain ⟨k, A1, y, A2, e1, s1, e2, s2, e3, ho, hS⟩ := op_firstFrom hT hb 
  have e2 : f_X9_firstFrom A1 526  = some (y, A2) := e2
  refine ⟨A2, ?_, hS⟩
  unfold k_L_law_1668 k_L_law_2228
  rw [e1, Option.bind_some, if_pos s1, e2, Option.bind_some, if_pos s2, e3, Option.bind_some, if_pos rfl]
  by_cases hk : k = 0
  · obtain ⟨o1, o2⟩ := ho hk
    rw [if_pos hk, o1, if_pos rfl, if_pos wOut, o2, if_pos rfl]
  · rw [if_neg hk]
theorem lw_1712 (hT : ST A b) (hb : b < 512) (w1 : wix (x4 + (1 : Int32)) Ln) (w2 : wix (x4 + (2 : Int32)) Ln) (w3 : wix (x4 + (3 : Int32)) Ln) : ∃ A2, k_L_law_1712 xs Ln rec A 100 526 549 x4 = rec A2 (x4 + (4 : Int32)) ∧ ST A2 (b + 1) := by
  obtain ⟨k, A1, y, A2, e1, s1, e2, s2, e3, ho, hS⟩ := op_remove hT hb (xs (x4 + (1 : Int32)).toNatClampNeg)
  have e2 : f_X9_remove A1 526 (xs (x4 + (1 : Int32)).toNatClampNeg) = some (y, A2) := e2
  refine ⟨A2, ?_, hS⟩
  unfold k_L_law_1712 k_L_law_2228
  rw [if_pos w1, e1, Option.bind_some, if_pos w1, if_pos s1, e2, Option.bind_some, if_pos s2, e3, Option.bind_some, if_pos rfl]
  by_cases hk : k = 0
  · obtain ⟨o1, o2⟩ := ho hk
    rw [if_pos hk, o1, if_pos rfl, if_pos wOut, o2, if_pos rfl]
  · rw [if_neg hk]
theorem lw_1768 (hT : ST A b) (hb : b < 512) (w1 : wix (x4 + (1 : Int32)) Ln) (w2 : wix (x4 + (2 : Int32)) Ln) (w3 : wix (x4 + (3 : Int32)) Ln) : ∃ A2, k_L_law_1768 xs Ln rec A 100 526 549 x4 = rec A2 (x4 + (4 : Int32)) ∧ ST A2 (b + 1) := by
  obtain ⟨k, A1, y, A2, e1, s1, e2, s2, e3, ho, hS⟩ := op_clearSite hT hb 
  have e2 : f_X9_clearSite A1 526  = some (y, A2) := e2
  refine ⟨A2, ?_, hS⟩
  unfold k_L_law_1768 k_L_law_2228
  rw [e1, Option.bind_some, if_pos s1, e2, Option.bind_some, if_pos s2, e3, Option.bind_some, if_pos rfl]
  by_cases hk : k = 0
  · obtain ⟨o1, o2⟩ := ho hk
    rw [if_pos hk, o1, if_pos rfl, if_pos wOut, o2, if_pos rfl]
  · rw [if_neg hk]
theorem lw_1812 (hT : ST A b) (hb : b < 512) (w1 : wix (x4 + (1 : Int32)) Ln) (w2 : wix (x4 + (2 : Int32)) Ln) (w3 : wix (x4 + (3 : Int32)) Ln) : ∃ A2, k_L_law_1812 xs Ln rec A 100 526 549 x4 = rec A2 (x4 + (4 : Int32)) ∧ ST A2 (b + 1) := by
  obtain ⟨h7, y, A1, A2, e1, s1, e2, hS⟩ := op_endSession hT hb
  refine ⟨A2, ?_, hS⟩
  unfold k_L_law_1812 k_L_law_2228
  rw [if_pos h7, e1, Option.bind_some, if_pos s1, e2, Option.bind_some, if_pos rfl]
theorem lw_1825 (hT : ST A b) (hb : b < 512) (w1 : wix (x4 + (1 : Int32)) Ln) (w2 : wix (x4 + (2 : Int32)) Ln) (w3 : wix (x4 + (3 : Int32)) Ln) : ∃ A2, k_L_law_1825 xs Ln rec A 100 526 549 x4 = rec A2 (x4 + (4 : Int32)) ∧ ST A2 (b + 1) := by
  obtain ⟨k, A1, y, A2, e1, s1, e2, s2, e3, ho, hS⟩ := op_advance hT hb (xs (x4 + (1 : Int32)).toNatClampNeg)
  have e2 : f_X9_advance A1 526 (xs (x4 + (1 : Int32)).toNatClampNeg) = some (y, A2) := e2
  refine ⟨A2, ?_, hS⟩
  unfold k_L_law_1825 k_L_law_2228
  rw [if_pos w1, e1, Option.bind_some, if_pos w1, if_pos s1, e2, Option.bind_some, if_pos s2, e3, Option.bind_some, if_pos rfl]
  by_cases hk : k = 0
  · obtain ⟨o1, o2⟩ := ho hk
    rw [if_pos hk, o1, if_pos rfl, if_pos wOut, o2, if_pos rfl]
  · rw [if_neg hk]
theorem lw_1881 (hT : ST A b) (hb : b < 512) (w1 : wix (x4 + (1 : Int32)) Ln) (w2 : wix (x4 + (2 : Int32)) Ln) (w3 : wix (x4 + (3 : Int32)) Ln) : ∃ A2, k_L_law_1881 xs Ln rec A 100 526 549 x4 = rec A2 (x4 + (4 : Int32)) ∧ ST A2 (b + 1) := by
  obtain ⟨h7, y, A2, e1, s1, e2, hS⟩ := op_time hT hb
  refine ⟨A2, ?_, hS⟩
  unfold k_L_law_1881 k_L_law_2228
  rw [if_pos h7, e1, Option.bind_some, if_pos s1, e2, Option.bind_some, if_pos rfl]
theorem lw_1895 (hT : ST A b) (hb : b < 512) (w1 : wix (x4 + (1 : Int32)) Ln) (w2 : wix (x4 + (2 : Int32)) Ln) (w3 : wix (x4 + (3 : Int32)) Ln) : ∃ A2, k_L_law_1895 xs Ln rec A 100 526 549 x4 = rec A2 (x4 + (4 : Int32)) ∧ ST A2 (b + 1) := by
  obtain ⟨h7, y, A2, e1, s1, e2, hS⟩ := op_nextExpiry hT hb
  refine ⟨A2, ?_, hS⟩
  unfold k_L_law_1895 k_L_law_2228
  rw [if_pos h7, e1, Option.bind_some, if_pos s1, e2, Option.bind_some, if_pos rfl]
theorem lw_1909 (hT : ST A b) (hb : b < 512) (w1 : wix (x4 + (1 : Int32)) Ln) (w2 : wix (x4 + (2 : Int32)) Ln) (w3 : wix (x4 + (3 : Int32)) Ln) : ∃ A2, k_L_law_1909 xs Ln rec A 100 526 549 x4 = rec A2 (x4 + (4 : Int32)) ∧ ST A2 (b + 1) := by
  obtain ⟨k, A1, y, A2, e1, s1, e2, s2, e3, ho, hS⟩ := op_setLimit hT hb (xs (x4 + (1 : Int32)).toNatClampNeg) (xs (x4 + (2 : Int32)).toNatClampNeg)
  have e2 : f_X9_setLimit A1 526 (xs (x4 + (1 : Int32)).toNatClampNeg) (xs (x4 + (2 : Int32)).toNatClampNeg) = some (y, A2) := e2
  refine ⟨A2, ?_, hS⟩
  unfold k_L_law_1909 k_L_law_2228
  rw [if_pos w1, if_pos w2, e1, Option.bind_some, if_pos w1, if_pos w2, if_pos s1, e2, Option.bind_some, if_pos s2, e3, Option.bind_some, if_pos rfl]
  by_cases hk : k = 0
  · obtain ⟨o1, o2⟩ := ho hk
    rw [if_pos hk, o1, if_pos rfl, if_pos wOut, o2, if_pos rfl]
  · rw [if_neg hk]
theorem lw_1977 (hT : ST A b) (hb : b < 512) (w1 : wix (x4 + (1 : Int32)) Ln) (w2 : wix (x4 + (2 : Int32)) Ln) (w3 : wix (x4 + (3 : Int32)) Ln) : ∃ A2, k_L_law_1977 xs Ln rec A 100 526 549 x4 = rec A2 (x4 + (4 : Int32)) ∧ ST A2 (b + 1) := by
  obtain ⟨k, A1, y, A2, e1, s1, e2, s2, e3, ho, hS⟩ := op_setPolicy hT hb (xs (x4 + (1 : Int32)).toNatClampNeg)
  have e2 : f_X9_setPolicy A1 526 (xs (x4 + (1 : Int32)).toNatClampNeg) = some (y, A2) := e2
  refine ⟨A2, ?_, hS⟩
  unfold k_L_law_1977 k_L_law_2228
  rw [if_pos w1, e1, Option.bind_some, if_pos w1, if_pos s1, e2, Option.bind_some, if_pos s2, e3, Option.bind_some, if_pos rfl]
  by_cases hk : k = 0
  · obtain ⟨o1, o2⟩ := ho hk
    rw [if_pos hk, o1, if_pos rfl, if_pos wOut, o2, if_pos rfl]
  · rw [if_neg hk]
theorem lw_2033 (hT : ST A b) (hb : b < 512) (w1 : wix (x4 + (1 : Int32)) Ln) (w2 : wix (x4 + (2 : Int32)) Ln) (w3 : wix (x4 + (3 : Int32)) Ln) : ∃ A2, k_L_law_2033 xs Ln rec A 100 526 549 x4 = rec A2 (x4 + (4 : Int32)) ∧ ST A2 (b + 1) := by
  obtain ⟨h7, y, A2, e1, s1, e2, hS⟩ := op_victim hT hb
  refine ⟨A2, ?_, hS⟩
  unfold k_L_law_2033 k_L_law_2228
  rw [if_pos h7, e1, Option.bind_some, if_pos s1, e2, Option.bind_some, if_pos rfl]
theorem lw_2046 (hT : ST A b) (hb : b < 512) (w1 : wix (x4 + (1 : Int32)) Ln) (w2 : wix (x4 + (2 : Int32)) Ln) (w3 : wix (x4 + (3 : Int32)) Ln) : ∃ A2, k_L_law_2046 xs Ln rec A 100 526 549 x4 = rec A2 (x4 + (4 : Int32)) ∧ ST A2 (b + 1) := by
  obtain ⟨k, A1, y, A2, e1, s1, e2, s2, e3, ho, hS⟩ := op_count hT hb (xs (x4 + (1 : Int32)).toNatClampNeg)
  have e2 : f_X9_count A1 526 (xs (x4 + (1 : Int32)).toNatClampNeg) = some (y, A2) := e2
  refine ⟨A2, ?_, hS⟩
  unfold k_L_law_2046 k_L_law_2228
  rw [if_pos w1, e1, Option.bind_some, if_pos w1, if_pos s1, e2, Option.bind_some, if_pos s2, e3, Option.bind_some, if_pos rfl]
  by_cases hk : k = 0
  · obtain ⟨o1, o2⟩ := ho hk
    rw [if_pos hk, o1, if_pos rfl, if_pos wOut, o2, if_pos rfl]
  · rw [if_neg hk]
theorem lw_2102 (hT : ST A b) (hb : b < 512) (w1 : wix (x4 + (1 : Int32)) Ln) (w2 : wix (x4 + (2 : Int32)) Ln) (w3 : wix (x4 + (3 : Int32)) Ln) : ∃ A2, k_L_law_2102 xs Ln rec A 100 526 549 x4 = rec A2 (x4 + (4 : Int32)) ∧ ST A2 (b + 1) := by
  obtain ⟨k, A1, y, A2, e1, s1, e2, s2, e3, ho, hS⟩ := op_save hT hb (xs (x4 + (1 : Int32)).toNatClampNeg)
  have e2 : f_X9_save A1 526 (xs (x4 + (1 : Int32)).toNatClampNeg) = some (y, A2) := e2
  refine ⟨A2, ?_, hS⟩
  unfold k_L_law_2102 k_L_law_2228
  rw [if_pos w1, e1, Option.bind_some, if_pos w1, if_pos s1, e2, Option.bind_some, if_pos s2, e3, Option.bind_some, if_pos rfl]
  by_cases hk : k = 0
  · obtain ⟨o1, o2⟩ := ho hk
    rw [if_pos hk, o1, if_pos rfl, if_pos wOut, o2, if_pos rfl]
  · rw [if_neg hk]
theorem lw_2158 (hT : ST A b) (hb : b < 512) (w1 : wix (x4 + (1 : Int32)) Ln) (w2 : wix (x4 + (2 : Int32)) Ln) (w3 : wix (x4 + (3 : Int32)) Ln) : ∃ A2, k_L_law_2158 xs Ln rec A 100 526 549 x4 = rec A2 (x4 + (4 : Int32)) ∧ ST A2 (b + 1) := by
  obtain ⟨k, A1, y, A2, e1, s1, e2, s2, e3, ho, hS⟩ := op_restore hT hb (xs (x4 + (1 : Int32)).toNatClampNeg)
  have e2 : f_X9_restore A1 526 (xs (x4 + (1 : Int32)).toNatClampNeg) = some (y, A2) := e2
  refine ⟨A2, ?_, hS⟩
  unfold k_L_law_2158 k_L_law_2228
  rw [if_pos w1, e1, Option.bind_some, if_pos w1, if_pos s1, e2, Option.bind_some, if_pos s2, e3, Option.bind_some, if_pos rfl]
  by_cases hk : k = 0
  · obtain ⟨o1, o2⟩ := ho hk
    rw [if_pos hk, o1, if_pos rfl, if_pos wOut, o2, if_pos rfl]
  · rw [if_neg hk]
theorem lw_2214 (hT : ST A b) (hb : b < 512) (w1 : wix (x4 + (1 : Int32)) Ln) (w2 : wix (x4 + (2 : Int32)) Ln) (w3 : wix (x4 + (3 : Int32)) Ln) : ∃ A2, k_L_law_2214 xs Ln rec A 100 526 549 x4 = rec A2 (x4 + (4 : Int32)) ∧ ST A2 (b + 1) := by
  obtain ⟨h7, y, A2, e1, s1, e2, hS⟩ := op_fingerprint hT hb
  refine ⟨A2, ?_, hS⟩
  unfold k_L_law_2214 k_L_law_2228
  rw [if_pos h7, e1, Option.bind_some, if_pos s1, e2, Option.bind_some, if_pos rfl]
end
theorem ST.mo {A : Hp} {b : Nat} (h : ST A b) : ST A (b + 1) := by
  obtain ⟨t, v, ms, K, ⟨hC, hR, hS, hD⟩, ⟨p, hI⟩, ho, hz⟩ := h
  exact ⟨t, v, ms, K, ⟨hC, hR, hS.mo, hD⟩, ⟨p, hI.mo (by omega)⟩, ho, hz⟩
theorem lw_step {xs : Nat → Int32} {Ln : Nat} {rec : Hp → Int32 → Option Int32} {A : Hp} {b : Nat} {x4 : Int32} (hT : ST A b) (hb : b < 512) (hl : ¬ (nI Ln) - (4 : Int32) < x4) (w0 : wix x4 Ln) (w1 : wix (x4 + (1 : Int32)) Ln) (w2 : wix (x4 + (2 : Int32)) Ln) (w3 : wix (x4 + (3 : Int32)) Ln) : ∃ A2, k_L_law_23s xs Ln 100 526 549 rec A x4 = rec A2 (x4 + (4 : Int32)) ∧ ST A2 (b + 1) := by
  unfold k_L_law_23s
  rw [if_neg hl, if_pos w0]
  generalize (xs x4.toNatClampNeg) &&& (63 : Int32) = c
  by_cases hc : c < 0 ∨ (39 : Int32) < c
  · rw [if_pos hc]
    exact ⟨A, rfl, hT.mo⟩
  rw [if_neg hc]
  by_cases h0 : c = (0 : Int32)
  · rw [if_pos h0]; exact lw_212 hT hb w1 w2 w3
  rw [if_neg h0]
  by_cases h1 : c = (1 : Int32)
  · rw [if_pos h1]; exact lw_268 hT hb w1 w2 w3
  rw [if_neg h1]
  by_cases h2 : c = (2 : Int32)
  · rw [if_pos h2]; exact lw_281 hT hb w1 w2 w3
  rw [if_neg h2]
  by_cases h3 : c = (3 : Int32)
  · rw [if_pos h3]; exact lw_294 hT hb w1 w2 w3
  rw [if_neg h3]
  by_cases h4 : c = (4 : Int32)
  · rw [if_pos h4]; exact lw_307 hT hb w1 w2 w3
  rw [if_neg h4]
  by_cases h5 : c = (5 : Int32)
  · rw [if_pos h5]; exact lw_358 hT hb w1 w2 w3
  rw [if_neg h5]
  by_cases h6 : c = (6 : Int32)
  · rw [if_pos h6]; exact lw_414 hT hb w1 w2 w3
  rw [if_neg h6]
  by_cases h7 : c = (7 : Int32)
  · rw [if_pos h7]; exact lw_458 hT hb w1 w2 w3
  rw [if_neg h7]
  by_cases h8 : c = (8 : Int32)
  · rw [if_pos h8]; exact lw_530 hT hb w1 w2 w3
  rw [if_neg h8]
  by_cases h9 : c = (9 : Int32)
  · rw [if_pos h9]; exact lw_586 hT hb w1 w2 w3
  rw [if_neg h9]
  by_cases h10 : c = (10 : Int32)
  · rw [if_pos h10]; exact lw_686 hT hb w1 w2 w3
  rw [if_neg h10]
  by_cases h11 : c = (11 : Int32)
  · rw [if_pos h11]; exact lw_742 hT hb w1 w2 w3
  rw [if_neg h11]
  by_cases h12 : c = (12 : Int32)
  · rw [if_pos h12]; exact lw_861 hT hb w1 w2 w3
  rw [if_neg h12]
  by_cases h13 : c = (13 : Int32)
  · rw [if_pos h13]; exact lw_874 hT hb w1 w2 w3
  rw [if_neg h13]
  by_cases h14 : c = (14 : Int32)
  · rw [if_pos h14]; exact lw_942 hT hb w1 w2 w3
  rw [if_neg h14]
  by_cases h15 : c = (15 : Int32)
  · rw [if_pos h15]; exact lw_1010 hT hb w1 w2 w3
  rw [if_neg h15]
  by_cases h16 : c = (16 : Int32)
  · rw [if_pos h16]; exact lw_1078 hT hb w1 w2 w3
  rw [if_neg h16]
  by_cases h17 : c = (17 : Int32)
  · rw [if_pos h17]; exact lw_1146 hT hb w1 w2 w3
  rw [if_neg h17]
  by_cases h18 : c = (18 : Int32)
  · rw [if_pos h18]; exact lw_1201 hT hb w1 w2 w3
  rw [if_neg h18]
  by_cases h19 : c = (19 : Int32)
  · rw [if_pos h19]; exact lw_1256 hT hb w1 w2 w3
  rw [if_neg h19]
  by_cases h20 : c = (20 : Int32)
  · rw [if_pos h20]; exact lw_1311 hT hb w1 w2 w3
  rw [if_neg h20]
  by_cases h21 : c = (21 : Int32)
  · rw [if_pos h21]; exact lw_1367 hT hb w1 w2 w3
  rw [if_neg h21]
  by_cases h22 : c = (22 : Int32)
  · rw [if_pos h22]; exact lw_1430 hT hb w1 w2 w3
  rw [if_neg h22]
  by_cases h23 : c = (23 : Int32)
  · rw [if_pos h23]; exact lw_1493 hT hb w1 w2 w3
  rw [if_neg h23]
  by_cases h24 : c = (24 : Int32)
  · rw [if_pos h24]; exact lw_1556 hT hb w1 w2 w3
  rw [if_neg h24]
  by_cases h25 : c = (25 : Int32)
  · rw [if_pos h25]; exact lw_1612 hT hb w1 w2 w3
  rw [if_neg h25]
  by_cases h26 : c = (26 : Int32)
  · rw [if_pos h26]; exact lw_1668 hT hb w1 w2 w3
  rw [if_neg h26]
  by_cases h27 : c = (27 : Int32)
  · rw [if_pos h27]; exact lw_1712 hT hb w1 w2 w3
  rw [if_neg h27]
  by_cases h28 : c = (28 : Int32)
  · rw [if_pos h28]; exact lw_1768 hT hb w1 w2 w3
  rw [if_neg h28]
  by_cases h29 : c = (29 : Int32)
  · rw [if_pos h29]; exact lw_1812 hT hb w1 w2 w3
  rw [if_neg h29]
  by_cases h30 : c = (30 : Int32)
  · rw [if_pos h30]; exact lw_1825 hT hb w1 w2 w3
  rw [if_neg h30]
  by_cases h31 : c = (31 : Int32)
  · rw [if_pos h31]; exact lw_1881 hT hb w1 w2 w3
  rw [if_neg h31]
  by_cases h32 : c = (32 : Int32)
  · rw [if_pos h32]; exact lw_1895 hT hb w1 w2 w3
  rw [if_neg h32]
  by_cases h33 : c = (33 : Int32)
  · rw [if_pos h33]; exact lw_1909 hT hb w1 w2 w3
  rw [if_neg h33]
  by_cases h34 : c = (34 : Int32)
  · rw [if_pos h34]; exact lw_1977 hT hb w1 w2 w3
  rw [if_neg h34]
  by_cases h35 : c = (35 : Int32)
  · rw [if_pos h35]; exact lw_2033 hT hb w1 w2 w3
  rw [if_neg h35]
  by_cases h36 : c = (36 : Int32)
  · rw [if_pos h36]; exact lw_2046 hT hb w1 w2 w3
  rw [if_neg h36]
  by_cases h37 : c = (37 : Int32)
  · rw [if_pos h37]; exact lw_2102 hT hb w1 w2 w3
  rw [if_neg h37]
  by_cases h38 : c = (38 : Int32)
  · rw [if_pos h38]; exact lw_2158 hT hb w1 w2 w3
  rw [if_neg h38]
  by_cases h39 : c = (39 : Int32)
  · rw [if_pos h39]; exact lw_2214 hT hb w1 w2 w3
  rw [if_neg h39]
  exfalso
  have hc0 : ¬ c < 0 := fun z => hc (Or.inl z)
  have hc1 : c ≤ 39 := Int32.not_lt.mp (fun z => hc (Or.inr z))
  obtain ⟨j, hj, rfl⟩ := nI_of2 (x := c) (M := 39) (n := 39) (by decide) hc0 hc1
  match j, hj with
  | 0, _ => exact h0 rfl
  | 1, _ => exact h1 rfl
  | 2, _ => exact h2 rfl
  | 3, _ => exact h3 rfl
  | 4, _ => exact h4 rfl
  | 5, _ => exact h5 rfl
  | 6, _ => exact h6 rfl
  | 7, _ => exact h7 rfl
  | 8, _ => exact h8 rfl
  | 9, _ => exact h9 rfl
  | 10, _ => exact h10 rfl
  | 11, _ => exact h11 rfl
  | 12, _ => exact h12 rfl
  | 13, _ => exact h13 rfl
  | 14, _ => exact h14 rfl
  | 15, _ => exact h15 rfl
  | 16, _ => exact h16 rfl
  | 17, _ => exact h17 rfl
  | 18, _ => exact h18 rfl
  | 19, _ => exact h19 rfl
  | 20, _ => exact h20 rfl
  | 21, _ => exact h21 rfl
  | 22, _ => exact h22 rfl
  | 23, _ => exact h23 rfl
  | 24, _ => exact h24 rfl
  | 25, _ => exact h25 rfl
  | 26, _ => exact h26 rfl
  | 27, _ => exact h27 rfl
  | 28, _ => exact h28 rfl
  | 29, _ => exact h29 rfl
  | 30, _ => exact h30 rfl
  | 31, _ => exact h31 rfl
  | 32, _ => exact h32 rfl
  | 33, _ => exact h33 rfl
  | 34, _ => exact h34 rfl
  | 35, _ => exact h35 rfl
  | 36, _ => exact h36 rfl
  | 37, _ => exact h37 rfl
  | 38, _ => exact h38 rfl
  | 39, _ => exact h39 rfl
  | j + 40, h => exact absurd h (by omega)
theorem lw_loop {xs : Nat → Int32} {Ln : Nat} (hL : Ln ≤ 2048) : ∀ (d k : Nat) (A : Hp), k + d = 512 → ST A k → (4 * k ≤ Ln ∨ k = 0 ∨ 4 * k < Ln + 4) → k_L_law_23 xs Ln 100 526 549 (d + 1) A (nI (4 * k)) = some 1 := by
  intro d
  induction d with
  | zero =>
    intro k A hk hT hle
    show k_L_law_23s xs Ln 100 526 549 (k_L_law_23 xs Ln 100 526 549 0) A (nI (4 * k)) = some 1
    unfold k_L_law_23s
    rw [if_pos]
    rw [Int32.lt_iff_toInt_lt, show (4 : Int32) = nI 4 from rfl, nI_sub_toInt (by omega) (by omega), nI_toInt (by omega)]
    omega
  | succ d ih =>
    intro k A hk hT hle
    show k_L_law_23s xs Ln 100 526 549 (k_L_law_23 xs Ln 100 526 549 (d + 1)) A (nI (4 * k)) = some 1
    by_cases hl : (nI Ln) - (4 : Int32) < nI (4 * k)
    · unfold k_L_law_23s
      rw [if_pos hl]
    · have hl4 : 4 * k + 4 ≤ Ln := by
        rw [Int32.lt_iff_toInt_lt, show (4 : Int32) = nI 4 from rfl, nI_sub_toInt (by omega) (by omega), nI_toInt (by omega)] at hl
        omega
      obtain ⟨A2, e, hS⟩ := lw_step (rec := k_L_law_23 xs Ln 100 526 549 (d + 1)) (x4 := nI (4 * k)) hT (by omega) hl ((nI_wix (by omega)).mpr (by omega)) (by rw [show nI (4 * k) + (1 : Int32) = nI (4 * k + 1) from nI_add _ 1]; exact (nI_wix (by omega)).mpr (by omega)) (by rw [show nI (4 * k) + (2 : Int32) = nI (4 * k + 2) from nI_add _ 2]; exact (nI_wix (by omega)).mpr (by omega)) (by rw [show nI (4 * k) + (3 : Int32) = nI (4 * k + 3) from nI_add _ 3]; exact (nI_wix (by omega)).mpr (by omega))
      rw [e, show nI (4 * k) + (4 : Int32) = nI (4 * (k + 1)) from (by rw [show (4 : Int32) = nI 4 from rfl, nI_add, show 4 * k + 4 = 4 * (k + 1) by omega])]
      exact ih (k + 1) A2 (by omega) hS (Or.inl (by omega))
