/-! rows that read and write the heap, ends of methods, calls -/
abbrev wix (i : Int32) (m : Nat) : Prop := 0 ≤ i ∧ i.toNatClampNeg < m
theorem wix_in {i : Int32} {m : Nat} (h : wix i m) : vp_in i m := fun q => q.elim (fun q => absurd h.1 (Int32.not_le.mpr q)) (fun q => absurd h.2 (Nat.not_lt.mpr q))
abbrev wZ (x : Int32) : Prop := x = 0 ∨ x = 1
theorem wZ_n {x : Int32} (h : wZ x) : narrow .boolean (.int x) = .int x := by
  rcases h with rfl | rfl <;> decide
theorem wZ_f {x : Int32} (h : wZ x) : fits .boolean (.int x) = true := by
  rcases h with rfl | rfl <;> decide
theorem wgd {α : Type} {g : Prop} [Decidable g] {T : Option α} {r : α} (h : (if g then T else none) = some r) : g ∧ T = some r := by
  by_cases hg : g
  · rw [if_pos hg] at h
    exact ⟨hg, h⟩
  · rw [if_neg hg] at h
    cases h
theorem wpos {α : Type} {g : Prop} [Decidable g] {T F : α} {r : α} (c : g) (h : (if g then T else F) = r) : T = r := by rw [if_pos c] at h; exact h
theorem wneg {α : Type} {g : Prop} [Decidable g] {T F : α} {r : α} (c : ¬ g) (h : (if g then T else F) = r) : F = r := by rw [if_neg c] at h; exact h
theorem wbd {α β : Type} {x : Option α} {f : α → Option β} {r : β} (h : x.bind f = some r) : ∃ a, x = some a ∧ f a = some r := by
  cases x with
  | none => cases h
  | some a => exact ⟨a, rfl, h⟩
def wCls (ci : Nat) (C : String) (T : u_T) (ty : Nat → FieldType) (N : Nat) : Prop := vwCl[ci]? = some (C, T, N) ∧ (∀ w ∈ u_ws C T N, w ∈ uw) ∧ (∀ k, k < N → parseFieldDescriptor (T k).2.2.1 = some (ty k)) ∧ (∀ a, a < N → ∀ b, b < N → a ≠ b → (T a).2.1 ≠ (T b).2.1) ∧ (wft ci).length = N ∧ ci < 8 ∧ Cond.instantiable C N ∈ uw ∧ Cond.initialized C ∈ uw
theorem va_P1 {D : va_G} {cl : List vw_C} {q : Nat × va_E} {H : Heap} (h : va_at D cl q H) : va_P D cl [q] H := by
  intro k r hk
  cases k with
  | zero => cases hk; exact h
  | succ k => cases hk
section
variable {κ : KT} {cc : ByteArray} {nL : Nat} {own : String} {fr lo mc ms : Nat} {A : Hp} {c n pc : Nat} {L : List (Nat × AV)} {st : List AV}
theorem Vw.getI (K : Cx κ cc nL own fr lo mc ms) {ci N i k f a : Nat} {C : String} {T : u_T} {ty : Nat → FieldType} (hc : wCls ci C T ty N) (hk : (wft ci)[k]? = some 0) (hf : 64 * ci + k = f) (hw : Cond.fieldLink own i (T k).1 (T k).2.1 (T k).2.2.1 ∈ uw) (ha : (hsh A a).1 = ci + 1) (d : decode cc pc = .ok (.getfield i, 3)) (kk : Vw κ A c n (pc + 3) L (.inl (hgI A f a 0) :: st)) : Vw κ A c n pc L (.inr (.inr a) :: st) := by
  intro H locs ls h1 h2 h3 h4
  subst hf
  have had := h1.ad (a := a) (by omega)
  show W _ _ _ _ _ _ _ _ _ _ H locs c n _ (F0 _ pc ls (wrv κ.2.2.2 a :: st.map (wcv κ.2.2.2)))
  rw [had]
  have hN : k < N := by rw [← hc.2.2.2.2.1]; exact (List.getElem?_eq_some_iff.mp hk).1
  exact va_get K.1 K.2.1 K.2.2.2.2.1 hc.2.1 K.2.2.2.1 K.2.2.2.2.2.2.1 (va_P1 (h1.2.2.2.2 a _ (wcl_obj ha hc.2.2.2.2.2.1))) 0 rfl hc.1 k hN (K.2.2.2.2.1 _ hw) (fun _ h => h) (wfs_get hk) d (kk H locs ls h1 h2 h3 h4)
theorem Vw.getL (K : Cx κ cc nL own fr lo mc ms) {ci N i k f a : Nat} {C : String} {T : u_T} {ty : Nat → FieldType} (hc : wCls ci C T ty N) (hk : (wft ci)[k]? = some 1) (hf : 64 * ci + k = f) (hw : Cond.fieldLink own i (T k).1 (T k).2.1 (T k).2.2.1 ∈ uw) (ha : (hsh A a).1 = ci + 1) (d : decode cc pc = .ok (.getfield i, 3)) (kk : Vw κ A c n (pc + 3) L (.inr (.inl (hgL A f a 0)) :: st)) : Vw κ A c n pc L (.inr (.inr a) :: st) := by
  intro H locs ls h1 h2 h3 h4
  subst hf
  have had := h1.ad (a := a) (by omega)
  show W _ _ _ _ _ _ _ _ _ _ H locs c n _ (F0 _ pc ls (wrv κ.2.2.2 a :: st.map (wcv κ.2.2.2)))
  rw [had]
  have hN : k < N := by rw [← hc.2.2.2.2.1]; exact (List.getElem?_eq_some_iff.mp hk).1
  exact va_get K.1 K.2.1 K.2.2.2.2.1 hc.2.1 K.2.2.2.1 K.2.2.2.2.2.2.1 (va_P1 (h1.2.2.2.2 a _ (wcl_obj ha hc.2.2.2.2.2.1))) 0 rfl hc.1 k hN (K.2.2.2.2.1 _ hw) (fun _ h => h) (wfs_get hk) d (kk H locs ls h1 h2 h3 h4)
theorem Vw.getR (K : Cx κ cc nL own fr lo mc ms) {ci N i k f a : Nat} {C : String} {T : u_T} {ty : Nat → FieldType} (hc : wCls ci C T ty N) (hk : (wft ci)[k]? = some 2) (hf : 64 * ci + k = f) (hw : Cond.fieldLink own i (T k).1 (T k).2.1 (T k).2.2.1 ∈ uw) (ha : (hsh A a).1 = ci + 1) (d : decode cc pc = .ok (.getfield i, 3)) (kk : Vw κ A c n (pc + 3) L (.inr (.inr (hgR A f a 0)) :: st)) : Vw κ A c n pc L (.inr (.inr a) :: st) := by
  intro H locs ls h1 h2 h3 h4
  subst hf
  have had := h1.ad (a := a) (by omega)
  show W _ _ _ _ _ _ _ _ _ _ H locs c n _ (F0 _ pc ls (wrv κ.2.2.2 a :: st.map (wcv κ.2.2.2)))
  rw [had]
  have hN : k < N := by rw [← hc.2.2.2.2.1]; exact (List.getElem?_eq_some_iff.mp hk).1
  exact va_get K.1 K.2.1 K.2.2.2.2.1 hc.2.1 K.2.2.2.1 K.2.2.2.2.2.2.1 (va_P1 (h1.2.2.2.2 a _ (wcl_obj ha hc.2.2.2.2.2.1))) 0 rfl hc.1 k hN (K.2.2.2.2.1 _ hw) (fun _ h => h) (wfs_get hk) d (kk H locs ls h1 h2 h3 h4)
end
section
variable {p : Program} {l : Launch} {e : Env} {R : Room} {s : State} {m : MethodId} {args : Array Value} {below : List Frame} {meth : Method} {c : Code} {H : Heap} {locs : List Loc} {cells slots : Nat} {Q : State → Prop}
variable {cc : ByteArray} {pc : Nat} {ls : Array Slot} {rest : List Value} {D : va_G} {cl : List vw_C} {a : Nat} {tys : List (ClassId × FieldType)}
theorem wx_put (hexec : p.tables.exec = Jvm.exec) (hb : c.code = cc) {own ref C : String} {T : u_T} {N ci index : Nat} {Ts : List Cond} (hts : ∀ w ∈ Ts, w.before args s = true) (hin : ∀ w ∈ u_ws C T N, w ∈ Ts) (ty0 : Nat → FieldType) (hty : ∀ k, k < N → parseFieldDescriptor (T k).2.2.1 = some (ty0 k)) (hnm : ∀ a, a < N → ∀ b, b < N → a ≠ b → (T a).2.1 ≠ (T b).2.1) (hown : s.vm.findClass own = some m.cls) (hK : va_K D cl tys s) {fs : List Value} (hP : va_at D cl (a, .inr (ci, fs)) H) (hc : cl[ci]? = some (C, T, N)) (k : Nat) (hk : k < N) (hlink : (Cond.fieldLink own index ref (T k).2.1 (T k).2.2.1).before args s = true) (hsame : ∀ x, s.fieldFound? (T k).1 (T k).2.1 (T k).2.2.1 = some x → s.fieldFound? ref (T k).2.1 (T k).2.2.1 = some x) (hfin : (T k).2.2.2 = false ∨ ((T k).2.2.2 = true ∧ meth.name = "<init>" ∧ (T k).1 = own)) {ty : FieldType} {v : Value} (hd : parseFieldDescriptor (T k).2.2.1 = some ty) (hn : narrow ty v = v) (hfit : fits ty v = true) (hl : k < fs.length)
    (hdg : decode cc pc = .ok (.putfield index, 3)) (kk : ∀ (H1 : Heap) (z : Nat), va_at D cl (a, .inr (ci, fs.set k v)) H1 → H1.size = H.size → (∀ q, q ≠ a → H1[q]? = H[q]?) → W p l e R s m args below meth c H1 (locs ++ [⟨a, z⟩]) cells slots Q (F0 m (pc + 3) ls rest)) : W p l e R s m args below meth c H locs cells slots Q (F0 m pc ls (v :: .ref a :: rest)) := by
  have hap := va_apart (own := own) hts hin ty0 hty hnm hK hc
  obtain ⟨r, h1, cell, q1, q2, q3, q4⟩ := hP
  have hr : r = (C, T, N) := Option.some.inj (h1.symm.trans hc)
  subst hr
  obtain ⟨hS, hfc, kC, hkC, hkind⟩ := hK.1 ci _ hc
  obtain ⟨cf, kf, fi, f, hi, hsl⟩ := hS k hk
  have hlay := hts _ (hin _ (u_in_lay hk))
  unfold u_lay at hlay
  have hst := (u_facts hfc hkC (u_lays hts hin hk) hi).1
  rcases hfin with hfin | ⟨hfin, hin2, hdecl⟩
  · rw [if_neg (by rw [hfin]; decide)] at hlay
    have h6 := u_store hfc hkC hkind hlay hi hd hn hfit
    refine W.putK hexec hb (f := f) ⟨hown, hlink, ⟨_, _, _, hsame _ hi⟩, hst⟩ (by rw [q2]; exact h6) q1 q3 (by rw [hsl]; exact k2_hasslot (q4 k hk)) rfl rfl hdg fun H' e1 e2 e3 => ?_
    rw [hsl] at e1 ⊢
    exact kk H' _ ⟨_, hc, t_OB.to (V := updV (vp_V fs) k v) ⟨_, e1, q2, q3, t_set q4 hap hk v⟩ (fun j _ => vp_updV_set hl v j)⟩ e2 e3
  · rw [if_pos hfin] at hlay
    have hcf : m.cls = cf := by
      obtain ⟨_, _, c', _, _, _, -, -, hf', -, -, -, hown2, -⟩ := Cond.laysFinal_spec hlay
      have e1 : c' = cf := by have := hi.symm.trans hf'; simp at this; exact this.1.symm
      rw [hdecl] at hown2
      rw [← e1]; exact Option.some.inj (hown.symm.trans hown2)
    have h6 := u_fits hfc hkC hkind (Or.inr hlay) hi hd hn hfit
    refine W.putFinK hexec hb hown hlink (hsame _ hi) hst hcf hin2 (by rw [q2]; exact h6) q1 q3 (by rw [hsl]; exact k2_hasslot (q4 k hk)) rfl rfl hdg fun H' e1 e2 e3 => ?_
    rw [hsl] at e1 ⊢
    exact kk H' _ ⟨_, hc, t_OB.to (V := updV (vp_V fs) k v) ⟨_, e1, q2, q3, t_set q4 hap hk v⟩ (fun j _ => vp_updV_set hl v j)⟩ e2 e3
end
section
variable {κ : KT} {cc : ByteArray} {nL : Nat} {own : String} {fr lo mc ms : Nat} {A : Hp} {c n pc : Nat} {L : List (Nat × AV)} {st : List AV}
theorem wlocs {g : GT} {A : Hp} {H : Heap} (h : wRep g A H) {locs : List Loc} (h3 : ∀ q ∈ locs, g.2.2.1 ≤ q.base) (a z : Nat) : ∀ q ∈ locs ++ [(⟨g.2.2.1 + (a - 100), z⟩ : Loc)], g.2.2.1 ≤ q.base := by
  intro q hq
  rcases List.mem_append.mp hq with hq | hq
  · exact h3 q hq
  · rw [List.mem_singleton.mp hq]
    exact Nat.le_add_right _ _
theorem Vw.putI (K : Cx κ cc nL own fr lo mc ms) {ci N i k f a : Nat} {C : String} {T : u_T} {ty : Nat → FieldType} {x : Int32} (hc : wCls ci C T ty N) (hk : (wft ci)[k]? = some 0) (hf : 64 * ci + k = f) (hw : Cond.fieldLink own i (T k).1 (T k).2.1 (T k).2.2.1 ∈ uw) (ha : (hsh A a).1 = ci + 1) (hfin : (T k).2.2.2 = false ∨ ((T k).2.2.2 = true ∧ κ.2.1.2.2.2.1.name = "<init>" ∧ (T k).1 = own)) (hn : narrow (ty k) (wcv κ.2.2.2 (.inl x)) = wcv κ.2.2.2 (.inl x)) (hfit : fits (ty k) (wcv κ.2.2.2 (.inl x)) = true) (d : decode cc pc = .ok (.putfield i, 3)) (kk : Vw κ (hsI A f a 0 x) c n (pc + 3) L st) : Vw κ A c n pc L (.inl x :: .inr (.inr a) :: st) := by
  intro H locs ls h1 h2 h3 h4
  subst hf
  have had := h1.ad (a := a) (by omega)
  show W _ _ _ _ _ _ _ _ _ _ H locs c n _ (F0 _ pc ls (wcv κ.2.2.2 (.inl x) :: wrv κ.2.2.2 a :: st.map (wcv κ.2.2.2)))
  rw [had]
  have hN : k < N := by rw [← hc.2.2.2.2.1]; exact (List.getElem?_eq_some_iff.mp hk).1
  have hset : wfs κ.2.2.2 (hsI A (64 * ci + k) a 0 x) ci a = (wfs κ.2.2.2 A ci a).set k (wcv κ.2.2.2 (.inl x)) := by
    refine wfs_set hk (by show Value.int _ = _; rw [hgI_sI, if_pos ⟨rfl, rfl, rfl⟩]; rfl) (fun k' t' hne ht' => ?_)
    unfold wfv
    split
    · first | rfl | (rw [hgI_sI, if_neg (by rintro ⟨q, -⟩; omega)])
    · first | rfl | (rw [hgL_sL, if_neg (by rintro ⟨q, -⟩; omega)])
    · first | rfl | (rw [hgR_sR, if_neg (by rintro ⟨q, -⟩; omega)])
  refine wx_put K.1 K.2.1 K.2.2.2.2.1 hc.2.1 ty hc.2.2.1 hc.2.2.2.1 K.2.2.2.1 K.2.2.2.2.2.2.1 (h1.2.2.2.2 a _ (wcl_obj ha hc.2.2.2.2.2.1)) hc.1 k hN (K.2.2.2.2.1 _ hw) (fun _ h => h) hfin (hc.2.2.1 k hN) hn hfit (by rw [wfs_len, hc.2.2.2.2.1]; exact hN) d (fun H1 z e1 e2 e3 => ?_)
  rw [← hset] at e1
  exact kk H1 _ ls (h1.set (by omega) rfl (fun _ => rfl) (fun b hb => wOth_I hb) (wcl_obj ha hc.2.2.2.2.2.1) e2 e3 e1) (by rw [e2]; exact h2) (wlocs h1 h3 a z) h4
theorem Vw.putL (K : Cx κ cc nL own fr lo mc ms) {ci N i k f a : Nat} {C : String} {T : u_T} {ty : Nat → FieldType} {x : Int64} (hc : wCls ci C T ty N) (hk : (wft ci)[k]? = some 1) (hf : 64 * ci + k = f) (hw : Cond.fieldLink own i (T k).1 (T k).2.1 (T k).2.2.1 ∈ uw) (ha : (hsh A a).1 = ci + 1) (hfin : (T k).2.2.2 = false ∨ ((T k).2.2.2 = true ∧ κ.2.1.2.2.2.1.name = "<init>" ∧ (T k).1 = own)) (hn : narrow (ty k) (wcv κ.2.2.2 (.inr (.inl x))) = wcv κ.2.2.2 (.inr (.inl x))) (hfit : fits (ty k) (wcv κ.2.2.2 (.inr (.inl x))) = true) (d : decode cc pc = .ok (.putfield i, 3)) (kk : Vw κ (hsL A f a 0 x) c n (pc + 3) L st) : Vw κ A c n pc L (.inr (.inl x) :: .inr (.inr a) :: st) := by
  intro H locs ls h1 h2 h3 h4
  subst hf
  have had := h1.ad (a := a) (by omega)
  show W _ _ _ _ _ _ _ _ _ _ H locs c n _ (F0 _ pc ls (wcv κ.2.2.2 (.inr (.inl x)) :: wrv κ.2.2.2 a :: st.map (wcv κ.2.2.2)))
  rw [had]
  have hN : k < N := by rw [← hc.2.2.2.2.1]; exact (List.getElem?_eq_some_iff.mp hk).1
  have hset : wfs κ.2.2.2 (hsL A (64 * ci + k) a 0 x) ci a = (wfs κ.2.2.2 A ci a).set k (wcv κ.2.2.2 (.inr (.inl x))) := by
    refine wfs_set hk (by show Value.long _ = _; rw [hgL_sL, if_pos ⟨rfl, rfl, rfl⟩]; rfl) (fun k' t' hne ht' => ?_)
    unfold wfv
    split
    · first | rfl | (rw [hgI_sI, if_neg (by rintro ⟨q, -⟩; omega)])
    · first | rfl | (rw [hgL_sL, if_neg (by rintro ⟨q, -⟩; omega)])
    · first | rfl | (rw [hgR_sR, if_neg (by rintro ⟨q, -⟩; omega)])
  refine wx_put K.1 K.2.1 K.2.2.2.2.1 hc.2.1 ty hc.2.2.1 hc.2.2.2.1 K.2.2.2.1 K.2.2.2.2.2.2.1 (h1.2.2.2.2 a _ (wcl_obj ha hc.2.2.2.2.2.1)) hc.1 k hN (K.2.2.2.2.1 _ hw) (fun _ h => h) hfin (hc.2.2.1 k hN) hn hfit (by rw [wfs_len, hc.2.2.2.2.1]; exact hN) d (fun H1 z e1 e2 e3 => ?_)
  rw [← hset] at e1
  exact kk H1 _ ls (h1.set (by omega) rfl (fun _ => rfl) (fun b hb => wOth_L hb) (wcl_obj ha hc.2.2.2.2.2.1) e2 e3 e1) (by rw [e2]; exact h2) (wlocs h1 h3 a z) h4
theorem Vw.putR (K : Cx κ cc nL own fr lo mc ms) {ci N i k f a : Nat} {C : String} {T : u_T} {ty : Nat → FieldType} {x : Nat} (hc : wCls ci C T ty N) (hk : (wft ci)[k]? = some 2) (hf : 64 * ci + k = f) (hw : Cond.fieldLink own i (T k).1 (T k).2.1 (T k).2.2.1 ∈ uw) (ha : (hsh A a).1 = ci + 1) (hfin : (T k).2.2.2 = false ∨ ((T k).2.2.2 = true ∧ κ.2.1.2.2.2.1.name = "<init>" ∧ (T k).1 = own)) (hn : narrow (ty k) (wcv κ.2.2.2 (.inr (.inr x))) = wcv κ.2.2.2 (.inr (.inr x))) (hfit : fits (ty k) (wcv κ.2.2.2 (.inr (.inr x))) = true) (d : decode cc pc = .ok (.putfield i, 3)) (kk : Vw κ (hsR A f a 0 x) c n (pc + 3) L st) : Vw κ A c n pc L (.inr (.inr x) :: .inr (.inr a) :: st) := by
  intro H locs ls h1 h2 h3 h4
  subst hf
  have had := h1.ad (a := a) (by omega)
  show W _ _ _ _ _ _ _ _ _ _ H locs c n _ (F0 _ pc ls (wcv κ.2.2.2 (.inr (.inr x)) :: wrv κ.2.2.2 a :: st.map (wcv κ.2.2.2)))
  rw [had]
  have hN : k < N := by rw [← hc.2.2.2.2.1]; exact (List.getElem?_eq_some_iff.mp hk).1
  have hset : wfs κ.2.2.2 (hsR A (64 * ci + k) a 0 x) ci a = (wfs κ.2.2.2 A ci a).set k (wcv κ.2.2.2 (.inr (.inr x))) := by
    refine wfs_set hk (by show wrv κ.2.2.2 _ = _; rw [hgR_sR, if_pos ⟨rfl, rfl, rfl⟩]; rfl) (fun k' t' hne ht' => ?_)
    unfold wfv
    split
    · first | rfl | (rw [hgI_sI, if_neg (by rintro ⟨q, -⟩; omega)])
    · first | rfl | (rw [hgL_sL, if_neg (by rintro ⟨q, -⟩; omega)])
    · first | rfl | (rw [hgR_sR, if_neg (by rintro ⟨q, -⟩; omega)])
  refine wx_put K.1 K.2.1 K.2.2.2.2.1 hc.2.1 ty hc.2.2.1 hc.2.2.2.1 K.2.2.2.1 K.2.2.2.2.2.2.1 (h1.2.2.2.2 a _ (wcl_obj ha hc.2.2.2.2.2.1)) hc.1 k hN (K.2.2.2.2.1 _ hw) (fun _ h => h) hfin (hc.2.2.1 k hN) hn hfit (by rw [wfs_len, hc.2.2.2.2.1]; exact hN) d (fun H1 z e1 e2 e3 => ?_)
  rw [← hset] at e1
  exact kk H1 _ ls (h1.set (by omega) rfl (fun _ => rfl) (fun b hb => wOth_R hb) (wcl_obj ha hc.2.2.2.2.2.1) e2 e3 e1) (by rw [e2]; exact h2) (wlocs h1 h3 a z) h4
theorem Vw.caload (K : Cx κ cc nL own fr lo mc ms) {a : Nat} {i : Int32} (ha : (hsh A a).1 = 9) (hi : wix i (hsh A a).2) (d : decode cc pc = .ok (.caload, 1)) (kk : Vw κ A c n (pc + 1) L (.inl (hgI A 1033 a i.toNatClampNeg) :: st)) : Vw κ A c n pc L (.inl i :: .inr (.inr a) :: st) := by
  intro H locs ls h1 h2 h3 h4
  have had := h1.ad (a := a) (by omega)
  show W _ _ _ _ _ _ _ _ _ _ H locs c n _ (F0 _ pc ls (.int i :: wrv κ.2.2.2 a :: st.map (wcv κ.2.2.2)))
  rw [had]
  exact va_cald K.1 K.2.1 K.2.2.2.2.2.2.1 (va_P1 (h1.2.2.2.2 a _ (wcl_I (g := κ.2.2.2) (k := 9) (n := (hsh A a).2) (by rw [← ha]) (by decide) (by decide) (by decide)))) 0 0 rfl rfl (wix_in hi) d (kk H locs ls h1 h2 h3 h4)
theorem Vw.iaload (K : Cx κ cc nL own fr lo mc ms) {a : Nat} {i : Int32} (ha : (hsh A a).1 = 10) (hi : wix i (hsh A a).2) (d : decode cc pc = .ok (.iaload, 1)) (kk : Vw κ A c n (pc + 1) L (.inl (hgI A 1034 a i.toNatClampNeg) :: st)) : Vw κ A c n pc L (.inl i :: .inr (.inr a) :: st) := by
  intro H locs ls h1 h2 h3 h4
  have had := h1.ad (a := a) (by omega)
  show W _ _ _ _ _ _ _ _ _ _ H locs c n _ (F0 _ pc ls (.int i :: wrv κ.2.2.2 a :: st.map (wcv κ.2.2.2)))
  rw [had]
  exact va_iald K.1 K.2.1 K.2.2.2.2.2.2.1 (va_P1 (h1.2.2.2.2 a _ (wcl_I (g := κ.2.2.2) (k := 10) (n := (hsh A a).2) (by rw [← ha]) (by decide) (by decide) (by decide)))) 0 1 rfl rfl (wix_in hi) d (kk H locs ls h1 h2 h3 h4)
theorem Vw.laload (K : Cx κ cc nL own fr lo mc ms) {a : Nat} {i : Int32} (ha : (hsh A a).1 = 11) (hi : wix i (hsh A a).2) (d : decode cc pc = .ok (.laload, 1)) (kk : Vw κ A c n (pc + 1) L (.inr (.inl (hgL A 1035 a i.toNatClampNeg)) :: st)) : Vw κ A c n pc L (.inl i :: .inr (.inr a) :: st) := by
  intro H locs ls h1 h2 h3 h4
  have had := h1.ad (a := a) (by omega)
  show W _ _ _ _ _ _ _ _ _ _ H locs c n _ (F0 _ pc ls (.int i :: wrv κ.2.2.2 a :: st.map (wcv κ.2.2.2)))
  rw [had]
  exact va_lald K.1 K.2.1 K.2.2.2.2.2.2.1 (va_P1 (h1.2.2.2.2 a _ (wcl_L (g := κ.2.2.2) (n := (hsh A a).2) (by rw [← ha])))) 0 2 rfl rfl (wix_in hi) d (kk H locs ls h1 h2 h3 h4)
theorem Vw.zaload (K : Cx κ cc nL own fr lo mc ms) {a : Nat} {i : Int32} (ha : (hsh A a).1 = 12) (hi : wix i (hsh A a).2) (d : decode cc pc = .ok (.baload, 1)) (kk : Vw κ A c n (pc + 1) L (.inl (hgI A 1036 a i.toNatClampNeg) :: st)) : Vw κ A c n pc L (.inl i :: .inr (.inr a) :: st) := by
  intro H locs ls h1 h2 h3 h4
  have had := h1.ad (a := a) (by omega)
  show W _ _ _ _ _ _ _ _ _ _ H locs c n _ (F0 _ pc ls (.int i :: wrv κ.2.2.2 a :: st.map (wcv κ.2.2.2)))
  rw [had]
  exact va_zald K.1 K.2.1 K.2.2.2.2.2.2.1 (va_P1 (h1.2.2.2.2 a _ (wcl_I (g := κ.2.2.2) (k := 12) (n := (hsh A a).2) (by rw [← ha]) (by decide) (by decide) (by decide)))) 0 3 rfl rfl (wix_in hi) d (kk H locs ls h1 h2 h3 h4)
theorem Vw.aaloadC (K : Cx κ cc nL own fr lo mc ms) {a : Nat} {i : Int32} (ha : (hsh A a).1 = 13) (hi : wix i (hsh A a).2) (d : decode cc pc = .ok (.aaload, 1)) (kk : Vw κ A c n (pc + 1) L (.inr (.inr (hgR A 1037 a i.toNatClampNeg)) :: st)) : Vw κ A c n pc L (.inl i :: .inr (.inr a) :: st) := by
  intro H locs ls h1 h2 h3 h4
  have had := h1.ad (a := a) (by omega)
  show W _ _ _ _ _ _ _ _ _ _ H locs c n _ (F0 _ pc ls (.int i :: wrv κ.2.2.2 a :: st.map (wcv κ.2.2.2)))
  rw [had]
  exact va_aldq K.1 K.2.1 K.2.2.2.2.2.2.1 (va_P1 (h1.2.2.2.2 a _ (wcl_R (g := κ.2.2.2) (k := 13) (n := (hsh A a).2) (by rw [← ha]) (by decide) (by decide)))) 0 4 rfl rfl (wix_in hi) d (kk H locs ls h1 h2 h3 h4)
theorem Vw.aaloadJ (K : Cx κ cc nL own fr lo mc ms) {a : Nat} {i : Int32} (ha : (hsh A a).1 = 14) (hi : wix i (hsh A a).2) (d : decode cc pc = .ok (.aaload, 1)) (kk : Vw κ A c n (pc + 1) L (.inr (.inr (hgR A 1038 a i.toNatClampNeg)) :: st)) : Vw κ A c n pc L (.inl i :: .inr (.inr a) :: st) := by
  intro H locs ls h1 h2 h3 h4
  have had := h1.ad (a := a) (by omega)
  show W _ _ _ _ _ _ _ _ _ _ H locs c n _ (F0 _ pc ls (.int i :: wrv κ.2.2.2 a :: st.map (wcv κ.2.2.2)))
  rw [had]
  exact va_aldq K.1 K.2.1 K.2.2.2.2.2.2.1 (va_P1 (h1.2.2.2.2 a _ (wcl_R (g := κ.2.2.2) (k := 14) (n := (hsh A a).2) (by rw [← ha]) (by decide) (by decide)))) 0 5 rfl rfl (wix_in hi) d (kk H locs ls h1 h2 h3 h4)
theorem Vw.aaloadR (K : Cx κ cc nL own fr lo mc ms) {a : Nat} {i : Int32} (ha : (hsh A a).1 = 15) (hi : wix i (hsh A a).2) (d : decode cc pc = .ok (.aaload, 1)) (kk : Vw κ A c n (pc + 1) L (.inr (.inr (hgR A 1039 a i.toNatClampNeg)) :: st)) : Vw κ A c n pc L (.inl i :: .inr (.inr a) :: st) := by
  intro H locs ls h1 h2 h3 h4
  have had := h1.ad (a := a) (by omega)
  show W _ _ _ _ _ _ _ _ _ _ H locs c n _ (F0 _ pc ls (.int i :: wrv κ.2.2.2 a :: st.map (wcv κ.2.2.2)))
  rw [had]
  exact va_aldq K.1 K.2.1 K.2.2.2.2.2.2.1 (va_P1 (h1.2.2.2.2 a _ (wcl_R (g := κ.2.2.2) (k := 15) (n := (hsh A a).2) (by rw [← ha]) (by decide) (by decide)))) 0 6 rfl rfl (wix_in hi) d (kk H locs ls h1 h2 h3 h4)
theorem Vw.alenC (K : Cx κ cc nL own fr lo mc ms) {a : Nat} (ha : (hsh A a).1 = 9) (d : decode cc pc = .ok (.arraylength, 1)) (kk : Vw κ A c n (pc + 1) L (.inl (nI (hsh A a).2) :: st)) : Vw κ A c n pc L (.inr (.inr a) :: st) := by
  intro H locs ls h1 h2 h3 h4
  have had := h1.ad (a := a) (by omega)
  show W _ _ _ _ _ _ _ _ _ _ H locs c n _ (F0 _ pc ls (wrv κ.2.2.2 a :: st.map (wcv κ.2.2.2)))
  rw [had]
  exact va_alen K.1 K.2.1 K.2.2.2.2.2.2.1 (va_P1 (h1.2.2.2.2 a _ (wcl_I (g := κ.2.2.2) (k := 9) (n := (hsh A a).2) (by rw [← ha]) (by decide) (by decide) (by decide)))) 0 0 rfl rfl rfl d (kk H locs ls h1 h2 h3 h4)
theorem Vw.alenI (K : Cx κ cc nL own fr lo mc ms) {a : Nat} (ha : (hsh A a).1 = 10) (d : decode cc pc = .ok (.arraylength, 1)) (kk : Vw κ A c n (pc + 1) L (.inl (nI (hsh A a).2) :: st)) : Vw κ A c n pc L (.inr (.inr a) :: st) := by
  intro H locs ls h1 h2 h3 h4
  have had := h1.ad (a := a) (by omega)
  show W _ _ _ _ _ _ _ _ _ _ H locs c n _ (F0 _ pc ls (wrv κ.2.2.2 a :: st.map (wcv κ.2.2.2)))
  rw [had]
  exact va_alen K.1 K.2.1 K.2.2.2.2.2.2.1 (va_P1 (h1.2.2.2.2 a _ (wcl_I (g := κ.2.2.2) (k := 10) (n := (hsh A a).2) (by rw [← ha]) (by decide) (by decide) (by decide)))) 0 1 rfl rfl rfl d (kk H locs ls h1 h2 h3 h4)
theorem Vw.alenL (K : Cx κ cc nL own fr lo mc ms) {a : Nat} (ha : (hsh A a).1 = 11) (d : decode cc pc = .ok (.arraylength, 1)) (kk : Vw κ A c n (pc + 1) L (.inl (nI (hsh A a).2) :: st)) : Vw κ A c n pc L (.inr (.inr a) :: st) := by
  intro H locs ls h1 h2 h3 h4
  have had := h1.ad (a := a) (by omega)
  show W _ _ _ _ _ _ _ _ _ _ H locs c n _ (F0 _ pc ls (wrv κ.2.2.2 a :: st.map (wcv κ.2.2.2)))
  rw [had]
  exact va_alen K.1 K.2.1 K.2.2.2.2.2.2.1 (va_P1 (h1.2.2.2.2 a _ (wcl_L (g := κ.2.2.2) (n := (hsh A a).2) (by rw [← ha])))) 0 2 rfl rfl rfl d (kk H locs ls h1 h2 h3 h4)
theorem Vw.castore (K : Cx κ cc nL own fr lo mc ms) {a : Nat} {i x : Int32} (ha : (hsh A a).1 = 9) (hi : wix i (hsh A a).2) (d : decode cc pc = .ok (.castore, 1)) (kk : Vw κ (hsI A 1033 a i.toNatClampNeg (vp_nar .char x)) c n (pc + 1) L st) : Vw κ A c n pc L (.inl x :: .inl i :: .inr (.inr a) :: st) := by
  intro H locs ls h1 h2 h3 h4
  have had := h1.ad (a := a) (by omega)
  show W _ _ _ _ _ _ _ _ _ _ H locs c n _ (F0 _ pc ls (.int x :: .int i :: wrv κ.2.2.2 a :: st.map (wcv κ.2.2.2)))
  rw [had]
  have hs : hsh A a = (9, (hsh A a).2) := by rw [← ha]
  have hat := h1.2.2.2.2 a _ (wcl_I (g := κ.2.2.2) hs (by decide) (by decide) (by decide))
  refine W.cast K.1 K.2.1 hat ((K.2.2.2.2.2.2.1.2 0 _ rfl).1 (hsh A a).2 (fun j => .int (hgI A 1033 a j))) (fun q => by cases q) (by show ¬ (i < 0 ∨ (arrV _ _ _).slots.size ≤ _); rw [arrV_size]; exact wix_in hi) rfl rfl d fun H1 e z oq => ?_
  refine kk H1 _ ls (h1.set (e := .inl (κ.2.2.2.2.1 9, (hsh A a).2, .inl (fun j => hgI (hsI A 1033 a i.toNatClampNeg (vp_nar .char x)) 1033 a j))) (by omega) rfl (fun _ => rfl) (fun b hb => wOth_I hb) (wcl_I (g := κ.2.2.2) (k := 9) hs (by decide) (by decide) (by decide)) z oq ?_) (by rw [z]; exact h2) (wlocs h1 h3 a _) h4
  show H1[_]? = some (vp_cell _ _)
  rw [e, vp_cell_i, vp_cell_i, arrV_store]
  congr 2
  funext q
  by_cases hq : q = i.toNatClampNeg
  · subst hq
    simp [updV, hgI_sI, vp_nar]
    try rfl
  · simp [updV, hgI_sI, hq]
theorem Vw.iastore (K : Cx κ cc nL own fr lo mc ms) {a : Nat} {i x : Int32} (ha : (hsh A a).1 = 10) (hi : wix i (hsh A a).2) (d : decode cc pc = .ok (.iastore, 1)) (kk : Vw κ (hsI A 1034 a i.toNatClampNeg (x)) c n (pc + 1) L st) : Vw κ A c n pc L (.inl x :: .inl i :: .inr (.inr a) :: st) := by
  intro H locs ls h1 h2 h3 h4
  have had := h1.ad (a := a) (by omega)
  show W _ _ _ _ _ _ _ _ _ _ H locs c n _ (F0 _ pc ls (.int x :: .int i :: wrv κ.2.2.2 a :: st.map (wcv κ.2.2.2)))
  rw [had]
  have hs : hsh A a = (10, (hsh A a).2) := by rw [← ha]
  have hat := h1.2.2.2.2 a _ (wcl_I (g := κ.2.2.2) hs (by decide) (by decide) (by decide))
  refine W.iast K.1 K.2.1 hat ((K.2.2.2.2.2.2.1.2 1 _ rfl).1 (hsh A a).2 (fun j => .int (hgI A 1034 a j))) (fun q => by cases q) (by show ¬ (i < 0 ∨ (arrV _ _ _).slots.size ≤ _); rw [arrV_size]; exact wix_in hi) rfl rfl d fun H1 e z oq => ?_
  refine kk H1 _ ls (h1.set (e := .inl (κ.2.2.2.2.1 10, (hsh A a).2, .inl (fun j => hgI (hsI A 1034 a i.toNatClampNeg (x)) 1034 a j))) (by omega) rfl (fun _ => rfl) (fun b hb => wOth_I hb) (wcl_I (g := κ.2.2.2) (k := 10) hs (by decide) (by decide) (by decide)) z oq ?_) (by rw [z]; exact h2) (wlocs h1 h3 a _) h4
  show H1[_]? = some (vp_cell _ _)
  rw [e, vp_cell_i, vp_cell_i, arrV_store]
  congr 2
  funext q
  by_cases hq : q = i.toNatClampNeg
  · subst hq
    simp [updV, hgI_sI, vp_nar]
    try rfl
  · simp [updV, hgI_sI, hq]
theorem Vw.zastore (K : Cx κ cc nL own fr lo mc ms) {a : Nat} {i x : Int32} (ha : (hsh A a).1 = 12) (hi : wix i (hsh A a).2) (d : decode cc pc = .ok (.bastore, 1)) (kk : Vw κ (hsI A 1036 a i.toNatClampNeg (vp_nar .boolean x)) c n (pc + 1) L st) : Vw κ A c n pc L (.inl x :: .inl i :: .inr (.inr a) :: st) := by
  intro H locs ls h1 h2 h3 h4
  have had := h1.ad (a := a) (by omega)
  show W _ _ _ _ _ _ _ _ _ _ H locs c n _ (F0 _ pc ls (.int x :: .int i :: wrv κ.2.2.2 a :: st.map (wcv κ.2.2.2)))
  rw [had]
  have hs : hsh A a = (12, (hsh A a).2) := by rw [← ha]
  have hat := h1.2.2.2.2 a _ (wcl_I (g := κ.2.2.2) hs (by decide) (by decide) (by decide))
  refine W.zast K.1 K.2.1 hat ((K.2.2.2.2.2.2.1.2 3 _ rfl).1 (hsh A a).2 (fun j => .int (hgI A 1036 a j))) (fun q => by cases q) (by show ¬ (i < 0 ∨ (arrV _ _ _).slots.size ≤ _); rw [arrV_size]; exact wix_in hi) rfl rfl d fun H1 e z oq => ?_
  refine kk H1 _ ls (h1.set (e := .inl (κ.2.2.2.2.1 12, (hsh A a).2, .inl (fun j => hgI (hsI A 1036 a i.toNatClampNeg (vp_nar .boolean x)) 1036 a j))) (by omega) rfl (fun _ => rfl) (fun b hb => wOth_I hb) (wcl_I (g := κ.2.2.2) (k := 12) hs (by decide) (by decide) (by decide)) z oq ?_) (by rw [z]; exact h2) (wlocs h1 h3 a _) h4
  show H1[_]? = some (vp_cell _ _)
  rw [e, vp_cell_i, vp_cell_i, arrV_store]
  congr 2
  funext q
  by_cases hq : q = i.toNatClampNeg
  · subst hq
    simp [updV, hgI_sI, vp_nar]
    try rfl
  · simp [updV, hgI_sI, hq]
theorem Vw.lastore (K : Cx κ cc nL own fr lo mc ms) {a : Nat} {i : Int32} {x : Int64} (ha : (hsh A a).1 = 11) (hi : wix i (hsh A a).2) (d : decode cc pc = .ok (.lastore, 1)) (kk : Vw κ (hsL A 1035 a i.toNatClampNeg x) c n (pc + 1) L st) : Vw κ A c n pc L (.inr (.inl x) :: .inl i :: .inr (.inr a) :: st) := by
  intro H locs ls h1 h2 h3 h4
  have had := h1.ad (a := a) (by omega)
  show W _ _ _ _ _ _ _ _ _ _ H locs c n _ (F0 _ pc ls (.long x :: .int i :: wrv κ.2.2.2 a :: st.map (wcv κ.2.2.2)))
  rw [had]
  have hs : hsh A a = (11, (hsh A a).2) := by rw [← ha]
  have hat := h1.2.2.2.2 a _ (wcl_L (g := κ.2.2.2) hs)
  refine W.last K.1 K.2.1 hat ((K.2.2.2.2.2.2.1.2 2 _ rfl).1 (hsh A a).2 (fun j => .long (hgL A 1035 a j))) (fun q => by cases q) (by show ¬ (i < 0 ∨ (arrV _ _ _).slots.size ≤ _); rw [arrV_size]; exact wix_in hi) rfl rfl d fun H1 e z oq => ?_
  refine kk H1 _ ls (h1.set (e := .inl (κ.2.2.2.2.1 11, (hsh A a).2, .inr (.inl (fun j => hgL (hsL A 1035 a i.toNatClampNeg x) 1035 a j)))) (by omega) rfl (fun _ => rfl) (fun b hb => wOth_L hb) (wcl_L (g := κ.2.2.2) hs) z oq ?_) (by rw [z]; exact h2) (wlocs h1 h3 a _) h4
  show H1[_]? = some (vp_cell _ _)
  rw [e, vp_cell_l, vp_cell_l, arrV_store]
  congr 2
  funext q
  by_cases hq : q = i.toNatClampNeg
  · subst hq
    simp [updV, hgL_sL]
  · simp [updV, hgL_sL, hq]
theorem Vw.aastoreC (K : Cx κ cc nL own fr lo mc ms) {a x : Nat} {i : Int32} (ha : (hsh A a).1 = 13) (hx : (hsh A x).1 = 2) (hi : wix i (hsh A a).2) (d : decode cc pc = .ok (.aastore, 1)) (kk : Vw κ (hsR A 1037 a i.toNatClampNeg x) c n (pc + 1) L st) : Vw κ A c n pc L (.inr (.inr x) :: .inl i :: .inr (.inr a) :: st) := by
  intro H locs ls h1 h2 h3 h4
  have had := h1.ad (a := a) (by omega)
  have hadx := h1.ad (a := x) (by omega)
  have hx0 := (h1.2.2.2.1 x (by omega)).1
  show W _ _ _ _ _ _ _ _ _ _ H locs c n _ (F0 _ pc ls (wrv κ.2.2.2 x :: .int i :: wrv κ.2.2.2 a :: st.map (wcv κ.2.2.2)))
  rw [had, hadx]
  have hs : hsh A a = (13, (hsh A a).2) := by rw [← ha]
  have hat := h1.2.2.2.2 a _ (wcl_R (g := κ.2.2.2) hs (by decide) (by decide))
  obtain ⟨r', hr', cellV, g1, g2, g3, -⟩ := h1.2.2.2.2 x _ (wcl_obj (g := κ.2.2.2) (ci := 1) hx (by decide))
  have hcls := (K.2.2.2.2.2.2.1.1 1 (RX1, _, _) rfl).2
  obtain ⟨kA, comp, k1, k2, k3, -⟩ := (K.2.2.2.2.2.2.1.2 4 _ rfl).2
  have hcomp : comp = κ.2.2.2.1.1 1 := Option.some.inj (k3.symm.trans hcls.1)
  subst hcomp
  obtain ⟨kC, hkC, -⟩ := hcls.2
  refine W.aast K.1 K.2.1 hat (fun q h => by cases h) (fun h => by cases h) k1 k2 rfl hkC ⟨Int32.not_lt.mpr hi.1, by show _ < (arrV _ _ _).slots.size; rw [arrV_size]; exact hi.2⟩ g1 (fun q h => by rw [g3] at h; cases h) (by rw [g2]; exact hkC) (by rw [g2]; exact va_assign hcls) rfl rfl d fun H1 e z oq => ?_
  refine kk H1 _ ls (h1.set (e := .inl (κ.2.2.2.2.1 13, (hsh A a).2, .inr (.inr (.inr (.inr (fun j => wro κ.2.2.2 (hgR (hsR A 1037 a i.toNatClampNeg x) 1037 a j))))))) (by omega) rfl (fun _ => rfl) (fun b hb => wOth_R hb) (wcl_R (g := κ.2.2.2) (k := 13) hs (by decide) (by decide)) z oq ?_) (by rw [z]; exact h2) (wlocs h1 h3 a _) h4
  show H1[_]? = some (vp_cell _ _)
  rw [e, vp_cell_q, vp_cell_q, arrV_store]
  congr 2
  funext q
  by_cases hq : q = i.toNatClampNeg
  · subst hq
    rw [hgR_sR, if_pos ⟨rfl, rfl, rfl⟩]
    show updV _ _ _ _ = wrv κ.2.2.2 x
    rw [hadx]
    simp [updV]
  · rw [hgR_sR, if_neg (fun q' => hq q'.2.2)]
    simp [updV, hq]
theorem Vw.aastoreJ (K : Cx κ cc nL own fr lo mc ms) {a x : Nat} {i : Int32} (ha : (hsh A a).1 = 14) (hx : (hsh A x).1 = 3) (hi : wix i (hsh A a).2) (d : decode cc pc = .ok (.aastore, 1)) (kk : Vw κ (hsR A 1038 a i.toNatClampNeg x) c n (pc + 1) L st) : Vw κ A c n pc L (.inr (.inr x) :: .inl i :: .inr (.inr a) :: st) := by
  intro H locs ls h1 h2 h3 h4
  have had := h1.ad (a := a) (by omega)
  have hadx := h1.ad (a := x) (by omega)
  have hx0 := (h1.2.2.2.1 x (by omega)).1
  show W _ _ _ _ _ _ _ _ _ _ H locs c n _ (F0 _ pc ls (wrv κ.2.2.2 x :: .int i :: wrv κ.2.2.2 a :: st.map (wcv κ.2.2.2)))
  rw [had, hadx]
  have hs : hsh A a = (14, (hsh A a).2) := by rw [← ha]
  have hat := h1.2.2.2.2 a _ (wcl_R (g := κ.2.2.2) hs (by decide) (by decide))
  obtain ⟨r', hr', cellV, g1, g2, g3, -⟩ := h1.2.2.2.2 x _ (wcl_obj (g := κ.2.2.2) (ci := 2) hx (by decide))
  have hcls := (K.2.2.2.2.2.2.1.1 2 (RX4, _, _) rfl).2
  obtain ⟨kA, comp, k1, k2, k3, -⟩ := (K.2.2.2.2.2.2.1.2 5 _ rfl).2
  have hcomp : comp = κ.2.2.2.1.1 2 := Option.some.inj (k3.symm.trans hcls.1)
  subst hcomp
  obtain ⟨kC, hkC, -⟩ := hcls.2
  refine W.aast K.1 K.2.1 hat (fun q h => by cases h) (fun h => by cases h) k1 k2 rfl hkC ⟨Int32.not_lt.mpr hi.1, by show _ < (arrV _ _ _).slots.size; rw [arrV_size]; exact hi.2⟩ g1 (fun q h => by rw [g3] at h; cases h) (by rw [g2]; exact hkC) (by rw [g2]; exact va_assign hcls) rfl rfl d fun H1 e z oq => ?_
  refine kk H1 _ ls (h1.set (e := .inl (κ.2.2.2.2.1 14, (hsh A a).2, .inr (.inr (.inr (.inr (fun j => wro κ.2.2.2 (hgR (hsR A 1038 a i.toNatClampNeg x) 1038 a j))))))) (by omega) rfl (fun _ => rfl) (fun b hb => wOth_R hb) (wcl_R (g := κ.2.2.2) (k := 14) hs (by decide) (by decide)) z oq ?_) (by rw [z]; exact h2) (wlocs h1 h3 a _) h4
  show H1[_]? = some (vp_cell _ _)
  rw [e, vp_cell_q, vp_cell_q, arrV_store]
  congr 2
  funext q
  by_cases hq : q = i.toNatClampNeg
  · subst hq
    rw [hgR_sR, if_pos ⟨rfl, rfl, rfl⟩]
    show updV _ _ _ _ = wrv κ.2.2.2 x
    rw [hadx]
    simp [updV]
  · rw [hgR_sR, if_neg (fun q' => hq q'.2.2)]
    simp [updV, hq]
theorem Vw.aastoreR (K : Cx κ cc nL own fr lo mc ms) {a x : Nat} {i : Int32} (ha : (hsh A a).1 = 15) (hx : (hsh A x).1 = 5) (hi : wix i (hsh A a).2) (d : decode cc pc = .ok (.aastore, 1)) (kk : Vw κ (hsR A 1039 a i.toNatClampNeg x) c n (pc + 1) L st) : Vw κ A c n pc L (.inr (.inr x) :: .inl i :: .inr (.inr a) :: st) := by
  intro H locs ls h1 h2 h3 h4
  have had := h1.ad (a := a) (by omega)
  have hadx := h1.ad (a := x) (by omega)
  have hx0 := (h1.2.2.2.1 x (by omega)).1
  show W _ _ _ _ _ _ _ _ _ _ H locs c n _ (F0 _ pc ls (wrv κ.2.2.2 x :: .int i :: wrv κ.2.2.2 a :: st.map (wcv κ.2.2.2)))
  rw [had, hadx]
  have hs : hsh A a = (15, (hsh A a).2) := by rw [← ha]
  have hat := h1.2.2.2.2 a _ (wcl_R (g := κ.2.2.2) hs (by decide) (by decide))
  obtain ⟨r', hr', cellV, g1, g2, g3, -⟩ := h1.2.2.2.2 x _ (wcl_obj (g := κ.2.2.2) (ci := 4) hx (by decide))
  have hcls := (K.2.2.2.2.2.2.1.1 4 (RX6, _, _) rfl).2
  obtain ⟨kA, comp, k1, k2, k3, -⟩ := (K.2.2.2.2.2.2.1.2 6 _ rfl).2
  have hcomp : comp = κ.2.2.2.1.1 4 := Option.some.inj (k3.symm.trans hcls.1)
  subst hcomp
  obtain ⟨kC, hkC, -⟩ := hcls.2
  refine W.aast K.1 K.2.1 hat (fun q h => by cases h) (fun h => by cases h) k1 k2 rfl hkC ⟨Int32.not_lt.mpr hi.1, by show _ < (arrV _ _ _).slots.size; rw [arrV_size]; exact hi.2⟩ g1 (fun q h => by rw [g3] at h; cases h) (by rw [g2]; exact hkC) (by rw [g2]; exact va_assign hcls) rfl rfl d fun H1 e z oq => ?_
  refine kk H1 _ ls (h1.set (e := .inl (κ.2.2.2.2.1 15, (hsh A a).2, .inr (.inr (.inr (.inr (fun j => wro κ.2.2.2 (hgR (hsR A 1039 a i.toNatClampNeg x) 1039 a j))))))) (by omega) rfl (fun _ => rfl) (fun b hb => wOth_R hb) (wcl_R (g := κ.2.2.2) (k := 15) hs (by decide) (by decide)) z oq ?_) (by rw [z]; exact h2) (wlocs h1 h3 a _) h4
  show H1[_]? = some (vp_cell _ _)
  rw [e, vp_cell_q, vp_cell_q, arrV_store]
  congr 2
  funext q
  by_cases hq : q = i.toNatClampNeg
  · subst hq
    rw [hgR_sR, if_pos ⟨rfl, rfl, rfl⟩]
    show updV _ _ _ _ = wrv κ.2.2.2 x
    rw [hadx]
    simp [updV]
  · rw [hgR_sR, if_neg (fun q' => hq q'.2.2)]
    simp [updV, hq]
theorem Vw.newC (K : Cx κ cc nL own fr lo mc ms) {i : Int32} {N : Nat} (hw : Cond.arrayClass .char ∈ uw) (hi : 0 ≤ i) (hN : i.toNatClampNeg = N) (hb : N ≤ 20000) (hcc : c + 1 ≤ mc) (hss : n + N ≤ ms) (d : decode cc pc = .ok (.newarray .char, 2)) (kk : Vw κ (hmk A 9 N) (c + 1) (n + N) (pc + 2) L (.inr (.inr (hsz A)) :: st)) : Vw κ A c n pc L (.inl i :: st) := by
  intro H locs ls h1 h2 h3 h4
  obtain ⟨k1, k2, k3, k4, k5, k6, k7, k8, k9, k10, k11, k12⟩ := K
  have hby : N * componentBytes .char ≤ 536870912 := by
    have h8 : componentBytes .char ≤ 8 := by decide
    have h9 := Nat.mul_le_mul hb h8
    omega
  refine va_newaK (atype := .char) k1 k2 (k5 _ hw) rfl d rfl (Int32.not_lt.mpr hi) hN hby (by rw [k11]; exact hcc) (by rw [k11]; exact hss) rfl fun H1 cA e1 z1 o1 hAr hNm => ?_
  have hcy : cA = κ.2.2.2.2.1 9 := Option.some.inj (hNm.symm.trans (k7.2 0 _ rfl).2)
  subst hcy
  have hz := h1.sz
  have hk := kk H1 locs ls (h1.push z1 o1 (fun e he => ?_)) (by rw [z1]; omega) h3 h4
  · change W _ _ _ _ _ _ _ _ _ _ H1 locs (c + 1) (n + N) _ (F0 _ (pc + 2) ls (wrv κ.2.2.2 (hsz A) :: st.map (wcv κ.2.2.2))) at hk
    rw [hz] at hk
    exact hk
  · have hs9 : hsh (hmk A 9 N) (hsz A) = (9, N) := by rw [hsh_mk, if_pos rfl]
    rw [wcl_I (g := κ.2.2.2) (k := 9) (n := N) hs9 (by decide) (by decide) (by decide)] at he
    cases he
    show H1[_]? = some (vp_cell _ _)
    rw [show κ.2.2.2.2.2.1 + (hsz A - 100) = H.size by have := h1.1; have := h1.2.1; omega, e1, vp_cell_i]
    simp only [hgI_mk, if_pos rfl]
    rfl
theorem Vw.newI (K : Cx κ cc nL own fr lo mc ms) {i : Int32} {N : Nat} (hw : Cond.arrayClass .int ∈ uw) (hi : 0 ≤ i) (hN : i.toNatClampNeg = N) (hb : N ≤ 20000) (hcc : c + 1 ≤ mc) (hss : n + N ≤ ms) (d : decode cc pc = .ok (.newarray .int, 2)) (kk : Vw κ (hmk A 10 N) (c + 1) (n + N) (pc + 2) L (.inr (.inr (hsz A)) :: st)) : Vw κ A c n pc L (.inl i :: st) := by
  intro H locs ls h1 h2 h3 h4
  obtain ⟨k1, k2, k3, k4, k5, k6, k7, k8, k9, k10, k11, k12⟩ := K
  have hby : N * componentBytes .int ≤ 536870912 := by
    have h8 : componentBytes .int ≤ 8 := by decide
    have h9 := Nat.mul_le_mul hb h8
    omega
  refine va_newaK (atype := .int) k1 k2 (k5 _ hw) rfl d rfl (Int32.not_lt.mpr hi) hN hby (by rw [k11]; exact hcc) (by rw [k11]; exact hss) rfl fun H1 cA e1 z1 o1 hAr hNm => ?_
  have hcy : cA = κ.2.2.2.2.1 10 := Option.some.inj (hNm.symm.trans (k7.2 1 _ rfl).2)
  subst hcy
  have hz := h1.sz
  have hk := kk H1 locs ls (h1.push z1 o1 (fun e he => ?_)) (by rw [z1]; omega) h3 h4
  · change W _ _ _ _ _ _ _ _ _ _ H1 locs (c + 1) (n + N) _ (F0 _ (pc + 2) ls (wrv κ.2.2.2 (hsz A) :: st.map (wcv κ.2.2.2))) at hk
    rw [hz] at hk
    exact hk
  · have hs9 : hsh (hmk A 10 N) (hsz A) = (10, N) := by rw [hsh_mk, if_pos rfl]
    rw [wcl_I (g := κ.2.2.2) (k := 10) (n := N) hs9 (by decide) (by decide) (by decide)] at he
    cases he
    show H1[_]? = some (vp_cell _ _)
    rw [show κ.2.2.2.2.2.1 + (hsz A - 100) = H.size by have := h1.1; have := h1.2.1; omega, e1, vp_cell_i]
    simp only [hgI_mk, if_pos rfl]
    rfl
theorem Vw.newL (K : Cx κ cc nL own fr lo mc ms) {i : Int32} {N : Nat} (hw : Cond.arrayClass .long ∈ uw) (hi : 0 ≤ i) (hN : i.toNatClampNeg = N) (hb : N ≤ 20000) (hcc : c + 1 ≤ mc) (hss : n + N ≤ ms) (d : decode cc pc = .ok (.newarray .long, 2)) (kk : Vw κ (hmk A 11 N) (c + 1) (n + N) (pc + 2) L (.inr (.inr (hsz A)) :: st)) : Vw κ A c n pc L (.inl i :: st) := by
  intro H locs ls h1 h2 h3 h4
  obtain ⟨k1, k2, k3, k4, k5, k6, k7, k8, k9, k10, k11, k12⟩ := K
  have hby : N * componentBytes .long ≤ 536870912 := by
    have h8 : componentBytes .long ≤ 8 := by decide
    have h9 := Nat.mul_le_mul hb h8
    omega
  refine va_newaK (atype := .long) k1 k2 (k5 _ hw) rfl d rfl (Int32.not_lt.mpr hi) hN hby (by rw [k11]; exact hcc) (by rw [k11]; exact hss) rfl fun H1 cA e1 z1 o1 hAr hNm => ?_
  have hcy : cA = κ.2.2.2.2.1 11 := Option.some.inj (hNm.symm.trans (k7.2 2 _ rfl).2)
  subst hcy
  have hz := h1.sz
  have hk := kk H1 locs ls (h1.push z1 o1 (fun e he => ?_)) (by rw [z1]; omega) h3 h4
  · change W _ _ _ _ _ _ _ _ _ _ H1 locs (c + 1) (n + N) _ (F0 _ (pc + 2) ls (wrv κ.2.2.2 (hsz A) :: st.map (wcv κ.2.2.2))) at hk
    rw [hz] at hk
    exact hk
  · have hs9 : hsh (hmk A 11 N) (hsz A) = (11, N) := by rw [hsh_mk, if_pos rfl]
    rw [wcl_L (g := κ.2.2.2) (n := N) hs9] at he
    cases he
    show H1[_]? = some (vp_cell _ _)
    rw [show κ.2.2.2.2.2.1 + (hsz A - 100) = H.size by have := h1.1; have := h1.2.1; omega, e1, vp_cell_l]
    simp only [hgL_mk, if_pos rfl]
    rfl
theorem Vw.newZ (K : Cx κ cc nL own fr lo mc ms) {i : Int32} {N : Nat} (hw : Cond.arrayClass .boolean ∈ uw) (hi : 0 ≤ i) (hN : i.toNatClampNeg = N) (hb : N ≤ 20000) (hcc : c + 1 ≤ mc) (hss : n + N ≤ ms) (d : decode cc pc = .ok (.newarray .boolean, 2)) (kk : Vw κ (hmk A 12 N) (c + 1) (n + N) (pc + 2) L (.inr (.inr (hsz A)) :: st)) : Vw κ A c n pc L (.inl i :: st) := by
  intro H locs ls h1 h2 h3 h4
  obtain ⟨k1, k2, k3, k4, k5, k6, k7, k8, k9, k10, k11, k12⟩ := K
  have hby : N * componentBytes .boolean ≤ 536870912 := by
    have h8 : componentBytes .boolean ≤ 8 := by decide
    have h9 := Nat.mul_le_mul hb h8
    omega
  refine va_newaK (atype := .boolean) k1 k2 (k5 _ hw) rfl d rfl (Int32.not_lt.mpr hi) hN hby (by rw [k11]; exact hcc) (by rw [k11]; exact hss) rfl fun H1 cA e1 z1 o1 hAr hNm => ?_
  have hcy : cA = κ.2.2.2.2.1 12 := Option.some.inj (hNm.symm.trans (k7.2 3 _ rfl).2)
  subst hcy
  have hz := h1.sz
  have hk := kk H1 locs ls (h1.push z1 o1 (fun e he => ?_)) (by rw [z1]; omega) h3 h4
  · change W _ _ _ _ _ _ _ _ _ _ H1 locs (c + 1) (n + N) _ (F0 _ (pc + 2) ls (wrv κ.2.2.2 (hsz A) :: st.map (wcv κ.2.2.2))) at hk
    rw [hz] at hk
    exact hk
  · have hs9 : hsh (hmk A 12 N) (hsz A) = (12, N) := by rw [hsh_mk, if_pos rfl]
    rw [wcl_I (g := κ.2.2.2) (k := 12) (n := N) hs9 (by decide) (by decide) (by decide)] at he
    cases he
    show H1[_]? = some (vp_cell _ _)
    rw [show κ.2.2.2.2.2.1 + (hsz A - 100) = H.size by have := h1.1; have := h1.2.1; omega, e1, vp_cell_i]
    simp only [hgI_mk, if_pos rfl]
    rfl
theorem Vw.newqC (K : Cx κ cc nL own fr lo mc ms) {i : Int32} {N j : Nat} (hw : Cond.classLink own j RX1 ∈ uw) (hi : 0 ≤ i) (hN : i.toNatClampNeg = N) (hb : N ≤ 20000) (hcc : c + 1 ≤ mc) (hss : n + N ≤ ms) (d : decode cc pc = .ok (.anewarray j, 3)) (kk : Vw κ (hmk A 13 N) (c + 1) (n + N) (pc + 3) L (.inr (.inr (hsz A)) :: st)) : Vw κ A c n pc L (.inl i :: st) := by
  intro H locs ls h1 h2 h3 h4
  obtain ⟨k1, k2, k3, k4, k5, k6, k7, k8, k9, k10, k11, k12⟩ := K
  subst hN
  refine W.anew k1 k2 k4 (k5 _ hw) (va_AO.use (k8.2.2.2.2.2.2.2.2.1)) rfl d rfl (Int32.not_lt.mpr hi) (by omega) (by rw [k11]; exact hcc) (by rw [k11]; exact hss) fun cA kA comp f1 f2 f3 f4 => ?_
  obtain ⟨kA', comp', -, -, -, f5⟩ := (k7.2 4 _ rfl).2
  have hcy : cA = κ.2.2.2.2.1 13 := Option.some.inj (f1.symm.trans f5)
  subst hcy
  have hz := h1.sz
  generalize hH1 : H.push ({ cls := κ.2.2.2.2.1 13, slots := Array.replicate i.toNatClampNeg .null, vm := .none } : Cell) = H1
  have z1 : H1.size = H.size + 1 := by rw [← hH1, Array.size_push]
  have e1 : H1[H.size]? = some (arrV (κ.2.2.2.2.1 13) i.toNatClampNeg (fun _ => .null)) := by rw [← hH1, Array.getElem?_push_size, ← arrV_new]
  have o1 : ∀ q : Nat, q < H.size → H1[q]? = H[q]? := fun q hq => by rw [← hH1, Array.getElem?_push, if_neg (Nat.ne_of_lt hq)]
  have hk := kk H1 locs ls (h1.push z1 o1 (fun e he => ?_)) (by rw [z1]; omega) h3 h4
  · change W _ _ _ _ _ _ _ _ _ _ H1 locs (c + 1) (n + _) _ (F0 _ (pc + 3) ls (wrv κ.2.2.2 (hsz A) :: st.map (wcv κ.2.2.2))) at hk
    rw [hz] at hk
    exact hk
  · have hs9 : hsh (hmk A 13 i.toNatClampNeg) (hsz A) = (13, i.toNatClampNeg) := by rw [hsh_mk, if_pos rfl]
    rw [wcl_R (g := κ.2.2.2) hs9 (by decide) (by decide)] at he
    cases he
    show H1[_]? = some (vp_cell _ _)
    rw [show κ.2.2.2.2.2.1 + (hsz A - 100) = H.size by have := h1.1; have := h1.2.1; omega, e1, vp_cell_q]
    simp only [hgR_mk, if_pos rfl]
    rfl
theorem Vw.newqJ (K : Cx κ cc nL own fr lo mc ms) {i : Int32} {N j : Nat} (hw : Cond.classLink own j RX4 ∈ uw) (hi : 0 ≤ i) (hN : i.toNatClampNeg = N) (hb : N ≤ 20000) (hcc : c + 1 ≤ mc) (hss : n + N ≤ ms) (d : decode cc pc = .ok (.anewarray j, 3)) (kk : Vw κ (hmk A 14 N) (c + 1) (n + N) (pc + 3) L (.inr (.inr (hsz A)) :: st)) : Vw κ A c n pc L (.inl i :: st) := by
  intro H locs ls h1 h2 h3 h4
  obtain ⟨k1, k2, k3, k4, k5, k6, k7, k8, k9, k10, k11, k12⟩ := K
  subst hN
  refine W.anew k1 k2 k4 (k5 _ hw) (va_AO.use (k8.2.2.2.2.2.2.2.2.2.1)) rfl d rfl (Int32.not_lt.mpr hi) (by omega) (by rw [k11]; exact hcc) (by rw [k11]; exact hss) fun cA kA comp f1 f2 f3 f4 => ?_
  obtain ⟨kA', comp', -, -, -, f5⟩ := (k7.2 5 _ rfl).2
  have hcy : cA = κ.2.2.2.2.1 14 := Option.some.inj (f1.symm.trans f5)
  subst hcy
  have hz := h1.sz
  generalize hH1 : H.push ({ cls := κ.2.2.2.2.1 14, slots := Array.replicate i.toNatClampNeg .null, vm := .none } : Cell) = H1
  have z1 : H1.size = H.size + 1 := by rw [← hH1, Array.size_push]
  have e1 : H1[H.size]? = some (arrV (κ.2.2.2.2.1 14) i.toNatClampNeg (fun _ => .null)) := by rw [← hH1, Array.getElem?_push_size, ← arrV_new]
  have o1 : ∀ q : Nat, q < H.size → H1[q]? = H[q]? := fun q hq => by rw [← hH1, Array.getElem?_push, if_neg (Nat.ne_of_lt hq)]
  have hk := kk H1 locs ls (h1.push z1 o1 (fun e he => ?_)) (by rw [z1]; omega) h3 h4
  · change W _ _ _ _ _ _ _ _ _ _ H1 locs (c + 1) (n + _) _ (F0 _ (pc + 3) ls (wrv κ.2.2.2 (hsz A) :: st.map (wcv κ.2.2.2))) at hk
    rw [hz] at hk
    exact hk
  · have hs9 : hsh (hmk A 14 i.toNatClampNeg) (hsz A) = (14, i.toNatClampNeg) := by rw [hsh_mk, if_pos rfl]
    rw [wcl_R (g := κ.2.2.2) hs9 (by decide) (by decide)] at he
    cases he
    show H1[_]? = some (vp_cell _ _)
    rw [show κ.2.2.2.2.2.1 + (hsz A - 100) = H.size by have := h1.1; have := h1.2.1; omega, e1, vp_cell_q]
    simp only [hgR_mk, if_pos rfl]
    rfl
theorem Vw.newqR (K : Cx κ cc nL own fr lo mc ms) {i : Int32} {N j : Nat} (hw : Cond.classLink own j RX6 ∈ uw) (hi : 0 ≤ i) (hN : i.toNatClampNeg = N) (hb : N ≤ 20000) (hcc : c + 1 ≤ mc) (hss : n + N ≤ ms) (d : decode cc pc = .ok (.anewarray j, 3)) (kk : Vw κ (hmk A 15 N) (c + 1) (n + N) (pc + 3) L (.inr (.inr (hsz A)) :: st)) : Vw κ A c n pc L (.inl i :: st) := by
  intro H locs ls h1 h2 h3 h4
  obtain ⟨k1, k2, k3, k4, k5, k6, k7, k8, k9, k10, k11, k12⟩ := K
  subst hN
  refine W.anew k1 k2 k4 (k5 _ hw) (va_AO.use (k8.2.2.2.2.2.2.2.2.2.2.1)) rfl d rfl (Int32.not_lt.mpr hi) (by omega) (by rw [k11]; exact hcc) (by rw [k11]; exact hss) fun cA kA comp f1 f2 f3 f4 => ?_
  obtain ⟨kA', comp', -, -, -, f5⟩ := (k7.2 6 _ rfl).2
  have hcy : cA = κ.2.2.2.2.1 15 := Option.some.inj (f1.symm.trans f5)
  subst hcy
  have hz := h1.sz
  generalize hH1 : H.push ({ cls := κ.2.2.2.2.1 15, slots := Array.replicate i.toNatClampNeg .null, vm := .none } : Cell) = H1
  have z1 : H1.size = H.size + 1 := by rw [← hH1, Array.size_push]
  have e1 : H1[H.size]? = some (arrV (κ.2.2.2.2.1 15) i.toNatClampNeg (fun _ => .null)) := by rw [← hH1, Array.getElem?_push_size, ← arrV_new]
  have o1 : ∀ q : Nat, q < H.size → H1[q]? = H[q]? := fun q hq => by rw [← hH1, Array.getElem?_push, if_neg (Nat.ne_of_lt hq)]
  have hk := kk H1 locs ls (h1.push z1 o1 (fun e he => ?_)) (by rw [z1]; omega) h3 h4
  · change W _ _ _ _ _ _ _ _ _ _ H1 locs (c + 1) (n + _) _ (F0 _ (pc + 3) ls (wrv κ.2.2.2 (hsz A) :: st.map (wcv κ.2.2.2))) at hk
    rw [hz] at hk
    exact hk
  · have hs9 : hsh (hmk A 15 i.toNatClampNeg) (hsz A) = (15, i.toNatClampNeg) := by rw [hsh_mk, if_pos rfl]
    rw [wcl_R (g := κ.2.2.2) hs9 (by decide) (by decide)] at he
    cases he
    show H1[_]? = some (vp_cell _ _)
    rw [show κ.2.2.2.2.2.1 + (hsz A - 100) = H.size by have := h1.1; have := h1.2.1; omega, e1, vp_cell_q]
    simp only [hgR_mk, if_pos rfl]
    rfl
def wdf (ty : FieldType) : Value := defaultValue ty
theorem Vw.new (K : Cx κ cc nL own fr lo mc ms) {ci N j : Nat} {C : String} {T : u_T} {ty : Nat → FieldType} (hc : wCls ci C T ty N) (hty : ∀ k, k < N → ∀ t, (wft ci)[k]? = some t → defaultValue (ty k) = (match t with | 0 => Value.int 0 | 1 => Value.long 0 | _ => Value.null)) (hw : Cond.classLink own j C ∈ uw) (hcc : c + 1 ≤ mc) (hss : n + N ≤ ms) (d : decode cc pc = .ok (.new j, 3)) (kk : Vw κ (hmk A (ci + 1) 0) (c + 1) (n + N) (pc + 3) L (.inr (.inr (hsz A)) :: st)) : Vw κ A c n pc L st := by
  intro H locs ls h1 h2 h3 h4
  obtain ⟨k1, k2, k3, k4, k5, k6, k7, k8, k9, k10, k11, k12⟩ := K
  have hKn := k7.1 ci _ hc.1
  refine W.newcK k1 k2 k4 (k5 _ hw) (k5 _ hc.2.2.2.2.2.2.1) (k5 _ hc.2.2.2.2.2.2.2) rfl d (by rw [k11]; exact hcc) (by rw [k11]; exact hss) hKn.2.1 rfl fun H1 kC hkC e1 z1 o1 => ?_
  have hz := h1.sz
  have hk := kk H1 locs ls (h1.push z1 o1 (fun e he => ?_)) (by rw [z1]; omega) h3 h4
  · change W _ _ _ _ _ _ _ _ _ _ H1 locs (c + 1) (n + N) _ (F0 _ (pc + 3) ls (wrv κ.2.2.2 (hsz A) :: st.map (wcv κ.2.2.2))) at hk
    rw [hz] at hk
    exact hk
  · have hs9 : (hsh (hmk A (ci + 1) 0) (hsz A)).1 = ci + 1 := by rw [hsh_mk, if_pos rfl]
    rw [wcl_obj (g := κ.2.2.2) hs9 hc.2.2.2.2.2.1] at he
    cases he
    rw [show κ.2.2.2.2.2.1 + (hsz A - 100) = H.size by have := h1.1; have := h1.2.1; omega]
    refine ⟨_, hc.1, (u_born ty k5 hc.2.1 hKn hkC e1 hc.2.2.1).to (fun i hi => ?_)⟩
    have hi' : i < (wft ci).length := by rw [hc.2.2.2.2.1]; exact hi
    obtain ⟨t, hw9⟩ : ∃ t, (wft ci)[i]? = some t := ⟨_, List.getElem?_eq_getElem hi'⟩
    rw [hty i hi t hw9]
    have e9 : vp_V (wfs κ.2.2.2 (hmk A (ci + 1) 0) ci (hsz A)) i = wfv κ.2.2.2 (hmk A (ci + 1) 0) ci (hsz A) i t := by
      simp only [vp_V, List.getD_eq_getElem?_getD, wfs_get hw9, Option.getD_some]
    rw [e9]
    match t with
    | 0 =>
      show Value.int 0 = Value.int (hgI _ _ _ _)
      rw [hgI_mk, if_pos rfl]
    | 1 =>
      show Value.long 0 = Value.long (hgL _ _ _ _)
      rw [hgL_mk, if_pos rfl]
    | t + 2 =>
      show Value.null = wrv _ (hgR _ _ _ _)
      rw [hgR_mk, if_pos rfl]
      rfl
end
