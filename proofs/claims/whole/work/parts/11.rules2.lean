-- further rules that the printed walks use
section XS2
variable {F : Fin9} {own : String} {b : ByteArray} {ret : Option FieldType} {mL : Nat} {nm : String} {d rc rs : Nat} {L : Lay} {M : Mem} {pc : Nat} {ls st : List Value}
theorem Y_tableIn (t : Nat) {k : Int32} {dflt lo hi : Int} {offs : Array Int} {len : Nat} {x : Int32} {off : Int} {h : Hp} (hx : x = k) (hd : decode b pc = .ok (.tableswitch dflt lo hi offs, len)) (z1 : ¬ k.toInt < lo) (z2 : ¬ hi < k.toInt) (ho : offs[(k.toInt - lo).toNat]? = some off) (ht : (pc : Int) + off = (t : Int)) (kk : X F own b ret mL nm d rc rs h t ls st) : X F own b ret mL nm d rc rs h pc ls (.int x :: st) := by
  subst hx; exact X_tableIn t hd z1 z2 ho ht kk
theorem Y_lookIn (t : Nat) {k : Int32} {dflt : Int} {ps : Array (Int × Int)} {len : Nat} {x : Int32} {off : Int} {h : Hp} (hx : x = k) (hd : decode b pc = .ok (.lookupswitch dflt ps, len)) (hq : (ps.toList.zip (ps.toList.drop 1)).all (fun (a, next) => a.1 < next.1) = true) (ho : Op.lookupswitch.offset ps.toList dflt k.toInt = off) (ht : (pc : Int) + off = (t : Int)) (kk : X F own b ret mL nm d rc rs h t ls st) : X F own b ret mL nm d rc rs h pc ls (.int x :: st) := by
  subst hx; exact X_lookup t hd hq ho ht kk
theorem X_aastO (q : Nat) {a n : Nat} {i : Int32} {o : Option Nat} (ha : AR L a 7 n) (hin : vp_in i n) (ho : ∀ v, o = some v → OB L v 4) (hd : decode b pc = .ok (.aastore, 1)) (hp : pc + 1 = q)
    (k : X F own b ret mL nm d rc rs (L, sq M a (tn i) o) q ls st) : X F own b ret mL nm d rc rs (L, M) pc ls (va_rf o :: .int i :: .ref a :: st) := by
  cases o with
  | none => exact X_aastN q ha hin hd hp k
  | some v => exact X_aastQ q ha hin (ho v rfl) (by decide) ⟨TX4, 7, rfl⟩ hd hp k
end XS2
/-- a stretch of ints is copied -/
def cpy (M : Mem) (a b sp dp n : Nat) : Mem := (fun z j => if z = b then va_cpy (M.1 a) (M.1 b) sp dp n j else M.1 z j, M.2.1, M.2.2)
