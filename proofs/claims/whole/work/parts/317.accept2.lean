/-! the jar of the class: accepting -/
def cauT (r : RdV) : Nat := if r.2.1.1 = false then 11 else if r.1.1 = [] then 12 else if 16 < r.1.1.length ∨ 32 < r.1.2.1.length then 13 else 0
def cauD (v : JV) (d : List Int32) : Nat := if d = [] then 0 else if isDom d = false then 22 else if pubS (jU v) d = 0 then (if d = (jR v).2.2.1 then 0 else 21) else if dm (jR v).2.2.1 d then 0 else 22
def cauP (v : JV) (f : CkV) (sc : Bool) : Nat :=
  if cX f = true ∧ (jR v).2.1 = false then 31 else if cO f = true ∧ sc = true then 61 else if cX f = false ∧ (jR v).2.1 = false ∧ (jC v).any (fun c => grd c f) = true then 32
  else if cL f = 0 ∧ cX f = false then 51 else if bgn (cN f) (wsc 4) = true ∧ cX f = false then 41
  else if bgn (cN f) (wsc 6) = true ∧ ¬ (cX f = true ∧ cH f = true ∧ cP f = wsc 5) then 42 else 0
theorem nil_nI {s : List Int32} (h : s.length < 2 ^ 31) : nI s.length = 0 ↔ s = [] := by
  rw [nil_len]; exact nI_eq (b := 0) h (by omega)
theorem Rd.causeInText {A : Hp} {a : Nat} {r : RdV} (h : Rd A a r) : f_X4_causeInText A a = some (nI (cauT r)) := by
  obtain ⟨h0, ⟨⟨a0, a1, a2, a3⟩, -⟩, ⟨r1, r2, -⟩, -⟩ := h
  have l1 := r1.2.2.1
  have l2 := r2.2.2.1
  have n1 : (nI r.1.1.length = 0) ↔ r.1.1 = [] := nil_nI (by omega)
  have n2 : ((16 : Int32) < nI r.1.1.length) ↔ 16 < r.1.1.length := nI_ltI (a := 16) (by omega) (by omega)
  have n3 : (nI r.1.2.1.length ≤ (32 : Int32)) ↔ r.1.2.1.length ≤ 32 := nI_leI (b := 32) (by omega) (by omega)
  unfold f_X4_causeInText k_X4_causeInText_47 cauT
  rw [if_pos h0.1, a0, h0.2.1, if_pos r1.1.1, r1.2.1, h0.2.2.1, if_pos r2.1.1, r2.2.1]
  simp only [bI_0, n1, n2, n3]
  by_cases q0 : r.2.1.1 = false
  · rw [if_pos q0, if_pos q0]; rfl
  rw [if_neg q0, if_neg q0]
  by_cases q : r.1.1 = []
  · rw [if_pos q, if_pos q]; rfl
  rw [if_neg q, if_neg q]
  by_cases q2 : 16 < r.1.1.length
  · rw [if_pos q2, if_pos (Or.inl q2)]; rfl
  rw [if_neg q2]
  by_cases q3 : r.1.2.1.length ≤ 32
  · rw [if_pos q3, if_neg (show ¬ (16 < r.1.1.length ∨ 32 < r.1.2.1.length) by omega)]; rfl
  · rw [if_neg q3, if_pos (show 16 < r.1.1.length ∨ 32 < r.1.2.1.length by omega)]; rfl
theorem Jr.causeInDomain {A : Hp} {J : Nat} {v : JV} (hS : JS A J) (hQ : JQ A J v) {t cap : Nat} {d : List Int32} (ht : Rw A t cap d) (hd : d.length < 16000) : f_X4_causeInDomain A J t = some (nI (cauD v d)) := by
  have hH := hQ.2.2.1.2.2.2.1
  have hl := hH.2.2.1
  have n1 : (nI d.length = 0) ↔ d = [] := nil_nI (by omega)
  unfold f_X4_causeInDomain cauD
  rw [if_pos ht.1.1, ht.2.1, ht.isDomain hd, Option.bind_some, if_pos hS.1.1, hS.1.2.2.2.2.1, if_pos hQ.1.1.1, hQ.1.isPublic ht hd, Option.bind_some, hS.1.2.2.2.2.2.2.1, if_pos hQ.2.2.1.1.1, hQ.2.2.1.1.2.1, if_pos hH.1.1, hH.domainMatches ht (by omega) hd, Option.bind_some, if_pos hQ.2.2.1.1.1, ht.same hH hd (by omega), Option.bind_some]
  simp only [bI_0, n1, decide_eq_false_iff_not]
  by_cases q : d = []
  · rw [if_pos q, if_pos q]; rfl
  rw [if_neg q, if_neg q]
  by_cases q1 : isDom d = false
  · rw [if_pos q1, if_pos q1]; rfl
  rw [if_neg q1, if_neg q1]
  by_cases q2 : pubS (jU v) d = 0
  · rw [if_neg (show ¬ ¬ pubS (jU v) d = 0 from fun z => z q2), if_pos q2]
    by_cases q3 : d = (jR v).2.2.1
    · rw [if_neg (show ¬ ¬ d = (jR v).2.2.1 from fun z => z q3), if_pos q3]; rfl
    · rw [if_pos q3, if_neg q3]; rfl
  · rw [if_pos q2, if_neg q2]
    cases dm (jR v).2.2.1 d <;> rfl
theorem Jr.causeInProperties {A : Hp} {J : Nat} {v : JV} {f : CkV} (h : Jr A J v f) (ho : okl (jC v)) (hl2 : cL f ≤ 2) (sc : Bool) : f_X4_causeInProperties A J (bI sc) = some (nI (cauP v f sc)) := by
  obtain ⟨hS, hF, hQ, ⟨ad, hC⟩, hf⟩ := h
  obtain ⟨s0, ⟨⟨a0, a1, a2⟩, a3, a4, a5, a6, a7, a8⟩, ⟨r1, r2, r3, r4⟩⟩ := id hf
  have aR := hS.1.2.2.2.2.2.2.1
  have aF := hS.1.2.2.1
  have n1 : (nI (cL f) = 0) ↔ cL f = 0 := nI_eq (b := 0) (by omega) (by omega)
  have f161 : ∀ b : Bool, k_X4_causeInProperties_161 A J (bI b) = some (if bgn (cN f) (wsc 6) = true ∧ b = false then 42 else 0) := by
    intro b
    unfold k_X4_causeInProperties_161
    rw [if_pos hS.1.1, aF, if_pos s0.1, s0.2.1, if_pos r1.1.1, r1.begins (by omega) (by omega), Option.bind_some]
    cases bgn (cN f) (wsc 6) <;> cases b <;> rfl
  have f121 : k_X4_causeInProperties_121 A J = some (if bgn (cN f) (wsc 6) = true ∧ ¬ (cX f = true ∧ cH f = true ∧ cP f = wsc 5) then 42 else 0) := by
    unfold k_X4_causeInProperties_121 k_X4_causeInProperties_160
    rw [if_pos hS.1.1, aF, if_pos s0.1, a5, a4, s0.2.2.2.2, if_pos r4.1.1, r4.is (by omega) (by omega), Option.bind_some, show k_X4_causeInProperties_161 A J 0 = _ from f161 false, show k_X4_causeInProperties_161 A J 1 = _ from f161 true]
    simp only [bI_0, decide_eq_false_iff_not]
    generalize bgn (cN f) (wsc 6) = b1
    generalize cX f = b2
    generalize cH f = b3
    by_cases q : cP f = wsc 5
    · simp only [q]
      cases b1 <;> cases b2 <;> cases b3 <;> rfl
    · simp only [q]
      cases b1 <;> cases b2 <;> cases b3 <;> rfl
  have f93 : k_X4_causeInProperties_93 A J = some (if bgn (cN f) (wsc 4) = true ∧ cX f = false then 41 else if bgn (cN f) (wsc 6) = true ∧ ¬ (cX f = true ∧ cH f = true ∧ cP f = wsc 5) then 42 else 0) := by
    unfold k_X4_causeInProperties_93
    rw [if_pos hS.1.1, aF, if_pos s0.1, s0.2.1, if_pos r1.1.1, r1.begins (by omega) (by omega), Option.bind_some, a5, f121]
    generalize (if bgn (cN f) (wsc 6) = true ∧ ¬ (cX f = true ∧ cH f = true ∧ cP f = wsc 5) then (42 : Int32) else 0) = x
    generalize bgn (cN f) (wsc 4) = b1
    generalize cX f = b2
    cases b1 <;> cases b2 <;> rfl
  have f70 : k_X4_causeInProperties_70 A J = some (if cL f = 0 ∧ cX f = false then 51 else if bgn (cN f) (wsc 4) = true ∧ cX f = false then 41 else if bgn (cN f) (wsc 6) = true ∧ ¬ (cX f = true ∧ cH f = true ∧ cP f = wsc 5) then 42 else 0) := by
    unfold k_X4_causeInProperties_70
    rw [if_pos hS.1.1, aF, if_pos s0.1, a7, a5, f93]
    generalize (if bgn (cN f) (wsc 4) = true ∧ cX f = false then (41 : Int32) else if bgn (cN f) (wsc 6) = true ∧ ¬ (cX f = true ∧ cH f = true ∧ cP f = wsc 5) then (42 : Int32) else 0) = x
    simp only [n1]
    generalize cX f = b2
    by_cases q : cL f = 0
    · simp only [q]
      cases b2 <;> rfl
    · simp only [q]
      cases b2 <;> rfl
  have f40 : k_X4_causeInProperties_40 A J = some (if cX f = false ∧ (jR v).2.1 = false ∧ (jC v).any (fun c => grd c f) = true then 32 else if cL f = 0 ∧ cX f = false then 51 else if bgn (cN f) (wsc 4) = true ∧ cX f = false then 41 else if bgn (cN f) (wsc 6) = true ∧ ¬ (cX f = true ∧ cH f = true ∧ cP f = wsc 5) then 42 else 0) := by
    unfold k_X4_causeInProperties_40
    rw [if_pos hS.1.1, aF, if_pos s0.1, a5, aR, if_pos hQ.2.2.1.1.1, hQ.2.2.1.2.2.1, hC.isGuarded hS hf ho, Option.bind_some, f70]
    generalize (if cL f = 0 ∧ cX f = false then (51 : Int32) else if bgn (cN f) (wsc 4) = true ∧ cX f = false then (41 : Int32) else if bgn (cN f) (wsc 6) = true ∧ ¬ (cX f = true ∧ cH f = true ∧ cP f = wsc 5) then (42 : Int32) else 0) = x
    generalize cX f = b1
    generalize (jR v).2.1 = b2
    generalize (jC v).any (fun c => grd c f) = b3
    cases b1 <;> cases b2 <;> cases b3 <;> rfl
  have f23 : k_X4_causeInProperties_23 A J (bI sc) = some (if cO f = true ∧ sc = true then 61 else if cX f = false ∧ (jR v).2.1 = false ∧ (jC v).any (fun c => grd c f) = true then 32 else if cL f = 0 ∧ cX f = false then 51 else if bgn (cN f) (wsc 4) = true ∧ cX f = false then 41 else if bgn (cN f) (wsc 6) = true ∧ ¬ (cX f = true ∧ cH f = true ∧ cP f = wsc 5) then 42 else 0) := by
    unfold k_X4_causeInProperties_23
    rw [if_pos hS.1.1, aF, if_pos s0.1, a6, f40]
    generalize (if cX f = false ∧ (jR v).2.1 = false ∧ (jC v).any (fun c => grd c f) = true then (32 : Int32) else if cL f = 0 ∧ cX f = false then (51 : Int32) else if bgn (cN f) (wsc 4) = true ∧ cX f = false then (41 : Int32) else if bgn (cN f) (wsc 6) = true ∧ ¬ (cX f = true ∧ cH f = true ∧ cP f = wsc 5) then (42 : Int32) else 0) = x
    generalize cO f = b1
    cases b1 <;> cases sc <;> rfl
  have pn : ∀ {p : Prop} [Decidable p] (x : Nat) (y : Nat), nI (if p then x else y) = if p then nI x else nI y := fun x y => by split <;> rfl
  unfold f_X4_causeInProperties cauP
  rw [if_pos hS.1.1, aF, if_pos s0.1, a5, aR, if_pos hQ.2.2.1.1.1, hQ.2.2.1.2.2.1, f23]
  simp only [pn]
  show _ = some (if cX f = true ∧ (jR v).2.1 = false then (31 : Int32) else (if cO f = true ∧ sc = true then (61 : Int32) else if cX f = false ∧ (jR v).2.1 = false ∧ (jC v).any (fun c => grd c f) = true then (32 : Int32) else if cL f = 0 ∧ cX f = false then (51 : Int32) else if bgn (cN f) (wsc 4) = true ∧ cX f = false then (41 : Int32) else if bgn (cN f) (wsc 6) = true ∧ ¬ (cX f = true ∧ cH f = true ∧ cP f = wsc 5) then (42 : Int32) else 0))
  generalize (if cO f = true ∧ sc = true then (61 : Int32) else if cX f = false ∧ (jR v).2.1 = false ∧ (jC v).any (fun c => grd c f) = true then (32 : Int32) else if cL f = 0 ∧ cX f = false then (51 : Int32) else if bgn (cN f) (wsc 4) = true ∧ cX f = false then (41 : Int32) else if bgn (cN f) (wsc 6) = true ∧ ¬ (cX f = true ∧ cH f = true ∧ cP f = wsc 5) then (42 : Int32) else 0) = x
  generalize cX f = b1
  generalize (jR v).2.1 = b2
  cases b1 <;> cases b2 <;> rfl
