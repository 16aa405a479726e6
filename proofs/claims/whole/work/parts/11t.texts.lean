-- the two text constants: a char of the words, the place of a sign (the JDK's methods are walked here)
def jword (x : Int32) : Int32 := (sby.getD 1 []).getD (tn x) 0
def jsgF (c : Int32) : List Int32 → Nat → Int32
  | [], _ => -1
  | b :: l, k => if b = c then nI k else jsgF c l (k + 1)
def jsign (c : Int32) : Int32 := jsgF c (sby.getD 0 []) 0
section XT
variable {F : Fin9} {ret : Option FieldType} {mL : Nat} {nm : String} {d rc rs : Nat} {h : Hp} {pc : Nat} {ls st : List Value} {b : ByteArray}
theorem X_ldcT (q : Nat) {i : UInt32} {idx : Nat} (hd : decode b pc = .ok (.ldc idx, 2)) (hp : pc + 2 = q) (hi : (i.toNat = 1 ∧ idx = 163) ∨ (i.toNat = 2 ∧ idx = 173)) (h5 : ¬ i.toNat = 5) (k : X F RX5 b ret mL nm d rc rs h q ls (.float i :: st)) : X F RX5 b ret mL nm d rc rs h pc ls st := by
  subst hp
  intro g p l e R s m args below meth cc H locs LS cells slots C hR hS hL h1 h2
  have kk := k g p l e R s m args below meth cc H locs LS cells slots C hR hS hL h1 h2
  rw [List.map_cons, show cv g (.float i) = .ref (g.2.2.2.2.1 i.toNat) from if_neg h5] at kk
  obtain ⟨-, -, -, -, -, -, -, k8, k9, -⟩ := C.2.2.2.2.2.2.2.2.1
  rcases hi with ⟨e1, rfl⟩ | ⟨e1, rfl⟩
  · rw [e1] at kk; exact va_ldcS C.1 C.2.1 C.2.2.2.1 k8 hd kk
  · rw [e1] at kk; exact va_ldcS C.1 C.2.1 C.2.2.2.1 k9 hd kk
theorem Y_charAt (q : Nat) {i : Int32} (hin : vp_in i 216) (hd4 : 5 ≤ d) (hs : st.length ≤ 4) (hd : decode b pc = .ok (.invokevirtual 175, 3)) (hp : pc + 3 = q) (k : X F RX5 b ret mL nm d rc rs h q ls (.int (jword i) :: st)) : X F RX5 b ret mL nm d rc rs h pc ls (.int i :: .float 2 :: st) := sorry
theorem Y_indexOf (q : Nat) {c : Int32} (hd4 : 5 ≤ d) (hs : st.length ≤ 4) (hd : decode b pc = .ok (.invokevirtual 165, 3)) (hp : pc + 3 = q) (k : X F RX5 b ret mL nm d rc rs h q ls (.int (jsign c) :: st)) : X F RX5 b ret mL nm d rc rs h pc ls (.int c :: .float 1 :: st) := sorry
end XT
