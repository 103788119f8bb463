abbrev slen : List Nat := [4, 4, 4, 5, 4, 5, 3]
abbrev sbyt : List (List Int32) := [[103, 97, 116, 101], [119, 105, 115, 104], [109, 111, 115, 116], [108, 101, 97, 115, 116], [112, 97, 114, 116], [119, 104, 111, 108, 101], [97, 108, 108]]
def sch (k j : Nat) : Int32 := (sbyt.getD k []).getD j 0
abbrev msetI (M : Nat → Nat → Int32) (k j : Nat) (x : Int32) : Nat → Nat → Int32 := va_up M k (upd (M k) j x)
abbrev msetJ (M : Nat → Nat → Int64) (k j : Nat) (x : Int64) : Nat → Nat → Int64 := va_up M k (vp_updL (M k) j x)
