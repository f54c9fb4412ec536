/-! THE CLAIM OUT OF ONE WALK OF THE LAW'S BODY. Your part is whole_start (and what it stands on); all else here is the same for every law, but numbers. -/
def R_law : String := "CookieJarLaw"
def lw_P (b : Addr) (xs : List Int32) (args : Array Value) (s : State) : Prop := args = #[.ref b] ∧ s.IntsAt b xs ∧ xs.length ≤ 2048 ∧ (Jvm.Cond.and given_1 narrow_1).before args s = true
def lw_Q (_ : Array Value) (s : State) (o : Outcome) (t : State) : Prop := o = .returned (some (.int 1)) ∧ Framed s o t [] 601024 7293034
def lw_Z (below : List Frame) (a : Array Value) (s : State) : State → Prop := fun t => ∃ o, t.status = .running ∧ Ended t below o ∧ lw_Q a s o t
/-- the law's own end, with 1 on the stack, nothing written that was there before, its room as the claim has it -/
theorem lw_ret {p : Program} {l : Launch} {e : Env} {s : State} {m : MethodId} {below : List Frame} {meth : Method} {c : Code} {b : Nat} (hx : p.tables.exec = Jvm.exec) (hb : c.code = code) (hr : meth.sig.returnType = ret) (hlocks : meth.locks = false) {pc : Nat} {H : Heap} {ls : Array Slot} (hdg : decode code pc = .ok (.ireturn, 1)) : W p l e room_1 s m #[Value.ref b] below meth c H [] 601024 7293034 (lw_Z below #[Value.ref b] s) (F0 m pc ls [.int 1]) := by
  intro T hT X
  obtain ⟨fs, hret, hrun, hended, hW, hframe⟩ := X.leave (v := some (.int 1)) (hlocks := hlocks) (fun h => by rw [hr] at h; cases h)
  have hmeth' : T.vm.method? m = some meth := X.method'
  refine ⟨T.setFrames fs, ?_, .returned (some (.int 1)), hrun, hended, rfl, ⟨_, rfl⟩, hW, hframe⟩
  jvm_step X.here [X.here.top, hx, hb, hdg, hmeth', hr, ret, narrow_b1]
  (try refine ⟨rfl, ?_⟩); (try refine ⟨rfl, ?_⟩)
  first | (intro acts; rw [hret _ acts rfl rfl rfl]) | rw [hret _ _ rfl rfl rfl]
  exact Steps.refl _
/-- what holds at the law's entry: the machine, the code, the tables' words (any of lw_tbl by 'hts w (by decide +kernel)'), the script of L ints xs at the cell b, what the Statement gives of the start (any of its parts by flat_of_before) -/
def lw_At (p : Program) (s : State) (m : MethodId) (meth : Method) (c : Code) (b L : Nat) (xs : Nat → Int32) : Prop :=
  p.tables.exec = Jvm.exec ∧ c.code = code ∧ meth.sig.returnType = ret ∧ c.maxLocals = 8 ∧ s.vm.findClass R_law = some m.cls ∧ (∀ w ∈ lw_tbl, w.before #[Value.ref b] s = true) ∧ va_X b L xs s s.heap ∧ b < s.heap.size ∧ meth.locks = false ∧ (Jvm.Cond.and given_1 narrow_1).before #[Value.ref b] s = true
/-- the script -/
def SX (κ : KT) (Ln : Nat) (xs : Nat → Int32) : Prop := va_X (κ.2.2.2.2.2.2.2 92) Ln xs κ.1.2.2.2.2 κ.1.2.2.2.2.heap ∧ κ.2.2.2.2.2.2.2 92 < κ.2.2.2.2.2.1
/-- the law's end -/
def EdW (κ : KT) : Prop := ∃ b : Nat, κ.2.1.2.1 = #[Value.ref b] ∧ κ.2.2.1 = lw_Z κ.2.1.2.2.1 #[Value.ref b] κ.1.2.2.2.2 ∧ κ.2.1.2.2.2.1.sig.returnType = Jvm.Pilot.@@N@@.ret ∧ κ.2.2.2.2.2.1 = κ.1.2.2.2.2.heap.size
section
variable {κ : KT} {cc : ByteArray} {nL : Nat} {own nm : String} {fr lo mc ms : Nat} {A B : Hp} {c n pc : Nat} {L : List (Nat × AV)} {st : List AV} {Ln : Nat} {xs : Nat → Int32}
theorem w92 (g : GT) : wrv g 92 = .ref (g.2.2.2.2 92) := rfl
theorem Vw.slen (K : Cx κ cc nL own fr lo mc ms) (hX : SX κ Ln xs) (d : decode cc pc = .ok (.arraylength, 1)) (kk : Vw κ A c n (pc + 1) L (.inl (nI Ln) :: st)) : Vw κ A c n pc L (.inr (.inr 92) :: st) :=
  fun H locs ls h1 h2 h3 h4 => va_slen (A := wA κ.2.2.2) K.1 K.2.1 hX.1 (Nat.lt_of_lt_of_le hX.2 K.2.2.2.2.2.2.2.2.2.1) (Nat.not_le.mpr hX.2) (K.S h1 h2 h3) d (kk H locs ls h1 h2 h3 h4)
theorem Vw.sld (K : Cx κ cc nL own fr lo mc ms) (hX : SX κ Ln xs) {i : Int32} (hi : wix i Ln) (d : decode cc pc = .ok (.iaload, 1)) (kk : Vw κ A c n (pc + 1) L (.inl (xs i.toNatClampNeg) :: st)) : Vw κ A c n pc L (.inl i :: .inr (.inr 92) :: st) :=
  fun H locs ls h1 h2 h3 h4 => va_sld (A := wA κ.2.2.2) K.1 K.2.1 hX.1 (Nat.lt_of_lt_of_le hX.2 K.2.2.2.2.2.2.2.2.2.1) (Nat.not_le.mpr hX.2) (K.S h1 h2 h3) (wix_in hi) d (kk H locs ls h1 h2 h3 h4)
theorem Vw.tswI (K : Cx κ cc nL own fr lo mc ms) {dflt lo9 hi9 : Int} {offs : Array Int} {len : Nat} {x : Int32} {off : Int} {tgt : Nat} (k : Int32) (hk : x = k) (d : decode cc pc = .ok (.tableswitch dflt lo9 hi9 offs, len)) (h1 : ¬ k.toInt < lo9) (h2 : ¬ hi9 < k.toInt) (ho : offs[(k.toInt - lo9).toNat]? = some off) (ht : (pc : Int) + off = (tgt : Int)) (kk : Vw κ A c n tgt L st) : Vw κ A c n pc L (.inl x :: st) := by
  subst hk
  exact fun H locs ls a1 a2 a3 a4 => lv_tableIn K.1 K.2.1 d h1 h2 ho ht (kk H locs ls a1 a2 a3 a4)
theorem Vw.tswO (K : Cx κ cc nL own fr lo mc ms) {dflt hi9 : Int} {offs : Array Int} {len : Nat} {x m9 : Int32} {tgt : Nat} (d : decode cc pc = .ok (.tableswitch dflt 0 hi9 offs, len)) (hm : m9.toInt = hi9) (h : x < 0 ∨ m9 < x) (ht : (pc : Int) + dflt = (tgt : Int)) (kk : Vw κ A c n tgt L st) : Vw κ A c n pc L (.inl x :: st) := by
  have h' : x.toInt < 0 ∨ hi9 < x.toInt := by
    rcases h with h | h
    · exact Or.inl (by simpa using Int32.lt_iff_toInt_lt.mp h)
    · exact Or.inr (by rw [← hm]; exact Int32.lt_iff_toInt_lt.mp h)
  exact fun H locs ls a1 a2 a3 a4 => lv_tableOut K.1 K.2.1 d h' ht (kk H locs ls a1 a2 a3 a4)
theorem Vw.lawret (K : Cx κ cL_law 8 RL 14 540 601024 7293034) (E : EdW κ) {x : Int32} (h : some x = some (1 : Int32)) (hc : c ≤ 601024) (hn : n ≤ 7293034) (d : decode cL_law pc = .ok (.ireturn, 1)) : Vw κ A c n pc L [.inl x] := by
  cases h
  intro H locs ls h1 h2 h3 h4
  obtain ⟨b, e1, e2, e3, e4⟩ := E
  obtain ⟨k1, k2, k3, k4, k5, k6, k7, k8, k9, k10, k11, k12⟩ := K
  rw [e1, e2, k11]
  refine va_forget (fun q hq => by rw [← e4]; exact h3 q hq) (W.widen hc hn ?_)
  exact lw_ret k1 k2 e3 k6 d
end
