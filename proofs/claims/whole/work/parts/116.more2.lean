theorem wCn {x : Int32} (h : vp_nar .char x = x) : narrow .char (.int x) = .int x := by
  show Value.int (vp_nar .char x) = .int x
  rw [h]
section
variable {κ : KT} {cc : ByteArray} {nL : Nat} {own nm : String} {fr lo mc ms : Nat} {A B : Hp} {c n pc : Nat} {L : List (Nat × AV)} {st : List AV} {ret : Option FieldType}
theorem Vw.iretH (K : Cx κ cc nL own fr lo mc ms) {x r : Int32} (h : (some (x, A) : Option (Int32 × Hp)) = some (r, B)) (E : Ed κ (some .int) nm (.inl (some (.inl r))) B mc ms) (hc : c ≤ mc) (hn : n ≤ ms) (d : decode cc pc = .ok (.ireturn, 1)) : Vw κ A c n pc L [.inl x] := by
  cases h; exact Vw.iret K E hc hn d
theorem Vw.zretH (K : Cx κ cc nL own fr lo mc ms) {x r : Int32} (hz : wZ x) (h : (some (x, A) : Option (Int32 × Hp)) = some (r, B)) (E : Ed κ (some .boolean) nm (.inl (some (.inl r))) B mc ms) (hc : c ≤ mc) (hn : n ≤ ms) (d : decode cc pc = .ok (.ireturn, 1)) : Vw κ A c n pc L [.inl x] := by
  cases h; exact Vw.zret K hz E hc hn d
theorem Vw.lretH (K : Cx κ cc nL own fr lo mc ms) {x r : Int64} (h : (some (x, A) : Option (Int64 × Hp)) = some (r, B)) (E : Ed κ (some .long) nm (.inl (some (.inr (.inl r)))) B mc ms) (hc : c ≤ mc) (hn : n ≤ ms) (d : decode cc pc = .ok (.lreturn, 1)) : Vw κ A c n pc L [.inr (.inl x)] := by
  cases h; exact Vw.lret K E hc hn d
theorem Vw.aretH (K : Cx κ cc nL own fr lo mc ms) {x r : Nat} {C : String} (h : (some (x, A) : Option (Nat × Hp)) = some (r, B)) (E : Ed κ (some (.object C)) nm (.inl (some (.inr (.inr r)))) B mc ms) (hc : c ≤ mc) (hn : n ≤ ms) (d : decode cc pc = .ok (.areturn, 1)) : Vw κ A c n pc L [.inr (.inr x)] := by
  cases h; exact Vw.aret K E hc hn d
end
