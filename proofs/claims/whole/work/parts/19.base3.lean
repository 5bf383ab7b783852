/-! the worlds of the wishes -/
abbrev wC0 (ad : Nat → Nat) (wa wb : Int32) : va_W := [(ad 0, .inr (0, [.int wa, .int wb]))]
abbrev wC1 (od ad : Nat → Nat) : va_W := [(ad 0, .inr (1, [.ref (od 0)]))]
abbrev wC2 (ad : Nat → Nat) (wa : Int32) : va_W := [(ad 0, .inr (2, [.int wa]))]
abbrev wC3 (od ad : Nat → Nat) : va_W := [(ad 0, .inr (3, [.ref (od 0)]))]
/-- any wish, by its kind: 0 carries a set, 1 commutes, 2 fixes a set, else is in a tower -/
def wW (wk : Nat) (od : Nat → Nat) (cI : ClassId) (wd : Nat → Nat) (wa wb : Int32) (ucells uback ureach ufilled : Nat → Int32) (ufc : Int32) (umakers : Nat → Int32) (umc : Int32) : va_W :=
  if wk = 0 then wC0 wd wa wb else if wk = 1 then wC1 od wd ++ wT cI od ucells uback ureach ufilled ufc umakers umc else if wk = 2 then wC2 wd wa else wC3 od wd ++ wT cI od ucells uback ureach ufilled ufc umakers umc
