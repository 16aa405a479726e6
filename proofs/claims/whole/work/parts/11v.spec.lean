-- LEVEL 3, part 2: a day of a world as a function of numbers (what class and reference both do)
abbrev SS : Type := Nat → Nat → Int32
abbrev Fx : Type := Nat → Int32
abbrev Ex : Type := Fx → Int32
abbrev Pc : Type := (Nat → Option Ex) × (Fx → Bool) × Int32 × Int32
abbrev WS : Type := SS × (Int32 × Int32) × (Int32 × Int32) × Option Pc × Option Pc
def prF (S : SS) (q : Int32) : Int32 := jmax 1 ((if S 96 0 + 30 * S 97 0 = 0 then 0 else S 98 0 * 60 * S 97 0 / (S 96 0 + 30 * S 97 0)) + S 98 0 * q / 20)
def digF (S : SS) : SS := fun f i => if f = 107 ∧ i < tn (S 28 0) then jmin 9999 (S 107 i + S 122 i) else S f i
def stF (S : SS) (held : Bool) (o : Nat) : Bool := held && decide (S 111 o = 0) && decide (S 109 o < S 108 o + 8)
def okF (S : SS) (held : Bool) (ls : Int32) (o : Nat) : Bool := !decide (S 120 o < ls) && !decide (S 107 o < 8) && !stF S held o
def ofG (S : SS) (held : Bool) (ls : Int32) : Nat → Nat → Int32
  | 0, _ => -1
  | r + 1, k => if okF S held ls (tn (jrem (S 95 0 + nI k) (S 28 0))) then jrem (S 95 0 + nI k) (S 28 0) else ofG S held ls r (k + 1)
def ofF (S : SS) (held : Bool) (ls : Int32) : Int32 := ofG S held ls (tn (S 28 0)) 0
def roF (S : SS) (k : Nat) : Bool := !decide (S 125 k < 8 * S 113 k + 8)
def pkG (S : SS) (held : Bool) : Nat → Int32 × Int32
  | 0 => (-1, -1)
  | k + 1 =>
    if ¬ S 112 k = 0 ∨ roF S k = false ∨ (¬ (pkG S held k).1 < 0 ∧ ¬ S 115 k < S 115 (tn (pkG S held k).1)) ∨ ofF S held (S 126 k) < 0 then pkG S held k
    else (nI k, ofF S held (S 126 k))
def ldU (S : SS) (b o : Int32) : SS :=
  u2 (u2 (u2 (u2 (u2 S 116 (12 * tn b + tn (S 113 (tn b))) o) 113 (tn b) (S 113 (tn b) + 1)) 107 (tn o) (S 107 (tn o) - 8)) 108 (tn o) (S 108 (tn o) + 8)) 95 0 (if o + 1 = S 28 0 then 0 else o + 1)
def ldG (held : Bool) : Nat → SS → SS
  | 0, S => S
  | n + 1, S => if (pkG S held (tn (S 34 0))).1 < 0 then S else ldG held n (ldU S (pkG S held (tn (S 34 0))).1 (pkG S held (tn (S 34 0))).2)
def slG (S : SS) (k : Nat) (duty : Int32) : Nat → SS
  | 0 => S
  | i + 1 => u2 (slG S k duty i) 110 (tn (S 116 (12 * k + i))) (slG S k duty i 110 (tn (S 116 (12 * k + i))) + 8 * (prF S (S 120 (tn (S 116 (12 * k + i)))) - prF S (S 120 (tn (S 116 (12 * k + i)))) * S 124 (tn (S 116 (12 * k + i))) / 100 - duty - S 123 (tn (S 116 (12 * k + i)))))
def slF (S : SS) (k : Nat) (duty : Int32) : SS :=
  u2 (u2 (u2 (slG S k duty (tn (S 113 k))) 96 0 (jmin 99999 (S 96 0 + 8 * S 113 k))) 105 0 (S 105 0 + S 113 k)) 113 k 0
def saF (S : SS) (d w duty : Int32) (k : Nat) : SS :=
  if (S 112 k = 0 ∧ w = 1 ∧ (roF S k = false ∨ (0 < S 113 k ∧ ¬ d - S 115 k < 10))) ∨ (S 112 k = 2 ∧ w = 2 ∧ ¬ S 115 k = d) then u2 (u2 S 112 k (S 112 k + 1)) 114 k 3
  else if (S 112 k = 1 ∧ w = 1) ∨ (S 112 k = 3 ∧ w = 2) then
    (if 0 < S 114 k - 1 then u2 S 114 k (S 114 k - 1)
     else if S 112 k = 1 then slF (u2 (u2 (u2 S 114 k (S 114 k - 1)) 112 k 2) 115 k d) k duty
     else u2 (u2 (u2 S 114 k (S 114 k - 1)) 112 k 0) 115 k d)
  else S
def saG (d w duty : Int32) (S : SS) : Nat → SS
  | 0 => S
  | k + 1 => saF (saG d w duty S k) d w duty k
def usF (S : SS) (w : Int32) : SS :=
  u2 (u2 (u2 S 96 0 (if S 96 0 < (if w = 3 then 2 * S 97 0 else S 97 0) then 0 else S 96 0 - (if w = 3 then 2 * S 97 0 else S 97 0)))
    119 0 ((jshl (S 119 0) 1 ||| (if S 96 0 < (if w = 3 then 2 * S 97 0 else S 97 0) then 1 else 0)) &&& 1073741823))
    106 0 (S 106 0 + (if S 96 0 < (if w = 3 then 2 * S 97 0 else S 97 0) then 1 else 0))
def enF (S : SS) : SS :=
  if jrem (S 93 0 + 1) 30 = 0 then
    (fun f i => if f = 93 ∧ i = 0 then S 93 0 + 1 else if f = 117 ∧ i < tn (S 28 0) then S 108 i else if f = 118 ∧ i < tn (S 28 0) then S 109 i else S f i)
  else u2 S 93 0 (S 93 0 + 1)
-- what runs every day, behind the month's beginning: held, the wind, the law's duty
def dyF (S : SS) (held : Bool) (w duty : Int32) : SS :=
  enF (usF (saG (S 93 0 + 1) w duty (ldG held (tn (S 94 0)) (digF S)) (tn (S 34 0))) w)
-- facts
def cnF (p : Nat → Bool) : Nat → Nat
  | 0 => 0
  | n + 1 => cnF p n + if p n then 1 else 0
def bcF (x : Int32) : Int32 :=
  let x1 := x - ((jushr x 1) &&& 1431655765)
  let x2 := (x1 &&& 858993459) + ((jushr x1 2) &&& 858993459)
  let x3 := (x2 + jushr x2 4) &&& 252645135
  let x4 := x3 + jushr x3 8
  let x5 := x4 + jushr x4 16
  x5 &&& 63
def gfF (S : SS) : Fx
  | 7 => prF S 0
  | 8 => S 96 0
  | 9 => S 97 0
  | 10 => nI (cnF (fun k => decide (S 112 k = 0)) (tn (S 34 0)))
  | 11 => bcF (S 119 0)
  | 12 => S 93 0 / 30
  | 13 => nI (cnF (fun o => !decide (S 111 o = 0)) (tn (S 28 0)))
  | _ => 0
def owF (S : SS) (o : Nat) (over : Int32) : Fx
  | 0 => S 121 o
  | 1 => S 120 o
  | 2 => S 122 o
  | 3 => S 107 o
  | 4 => S 117 o
  | 5 => S 118 o
  | 6 => over
  | j => gfF S j
def liF (n : Int32) : Int32 := jmax 0 (jmin 9999 n)
def vdF (v : Int32) (k : Nat) : Bool := decide ((jshr v (nI k) &&& 1) = 1)
def lnF (P : Pc) (v : Int32) (k : Nat) : Option Ex := if vdF v k then none else P.1 k
def isF (S : SS) (P : Pc) (v iss : Int32) : Int32 := if ¬ iss = -1 then iss else match lnF P v 1 with
  | none => 9999
  | some e => liF (e (gfF S))
def wtF (S : SS) (P : Pc) (v : Int32) (o : Nat) : Int32 := match lnF P v 0 with
  | none => 1
  | some e => liF (e (owF S o 0))
def smF (f : Nat → Int32) : Nat → Int32
  | 0 => 0
  | n + 1 => smF f n + f n
def clF (S : SS) (r issue sum : Int32) (wt : Nat → Int32) (o : Nat) : Int32 :=
  if wt o = 0 then -1 else if r = 12 then 0 else if r = 13 then S 121 o else if r = 14 then S 120 o else jrem (issue * wt o) sum
def agF (cl : Nat → Int32) : Nat → Int32
  | 0 => -1
  | k + 1 => if ¬ cl k < 0 ∧ (agF cl k = -1 ∨ cl (tn (agF cl k)) < cl k) then nI k else agF cl k
def gvG (n : Nat) : Nat → (Nat → Int32) → (Nat → Int32) → (Nat → Int32)
  | 0, al, _ => al
  | r + 1, al, cl => if agF cl n = -1 then al else gvG n r (upd al (tn (agF cl n)) (al (tn (agF cl n)) + 1)) (upd cl (tn (agF cl n)) (-1))
def alF (S : SS) (P : Pc) (v issue : Int32) : Nat → Int32 :=
  let n := tn (S 28 0)
  let wt := wtF S P v
  let sum := smF wt n
  if sum = 0 then fun _ => 0
  else
    let r := if vdF v 4 then -1 else P.2.2.1
    gvG n (tn (issue - smF (fun o => issue * wt o / sum) n)) (fun o => issue * wt o / sum) (clF S r issue sum wt)
def bgP (S : SS) (v : Int32) (p : Option Pc) : Option Pc := match p with
  | none => none
  | some P => if vdF v 3 = false ∧ P.2.1 (gfF S) = true then none else some P
-- the month's first day: voids v, the issue that is tried (-1 none), pact, in hand
def bgS (S : SS) (v iss : Int32) (p : Option Pc) : SS := match p with
  | none => fun f i => if f = 109 then 0 else if f = 108 ∧ i < tn (S 28 0) then 0 else S f i
  | some P => fun f i => if f = 109 then (if i < tn (S 28 0) then alF S P v (isF S P v iss) i else 0) else if f = 108 ∧ i < tn (S 28 0) then 0 else if f = 100 ∧ i = 0 then isF S P v iss else S f i
def hdF (p h : Option Pc) : Option Pc := match h with
  | none => p
  | some q => some q
def dayF (w iss : Int32) (X : WS) : WS :=
  let S := X.1
  let v := X.2.2.1.1
  if jrem (S 93 0) 30 = 0 then
    let p := bgP S v (hdF X.2.2.2.1 X.2.2.2.2)
    (dyF (bgS S v iss p) p.isSome w X.2.2.1.2, X.2.2.1, X.2.2.1, p, none)
  else (dyF S X.2.2.2.1.isSome w X.2.2.1.2, X.2.2.1, X.2.2.1, X.2.2.2.1, X.2.2.2.2)
