def F_StringLatin1_canEncode (p0 : Int32) : Option (Int32) := (if p0 < 0 then (some (0 : Int32)) else (if (255 : Int32) < p0 then (some (0 : Int32)) else (some (1 : Int32))))
def B_StringLatin1_indexOfChar_7 (k : Nat) : Nat → Int32 → Int32 → Int32 → Option (Int32)
  | 0 => fun _ _ _ => none
  | n + 1 => fun x3 x4 x5 => (if x3 ≤ x5 then (some (-1 : Int32)) else (wgd x5 (zlen.getD k 0) (if ((zbyt.getD k []).getD x5.toNatClampNeg 0) = x4 then (some x5) else (B_StringLatin1_indexOfChar_7 k n) x3 x4 (x5 + (1 : Int32)))))
def F_StringLatin1_indexOfChar (k : Nat) (p1 : Int32) (p2 : Int32) (p3 : Int32) : Option (Int32) := (B_StringLatin1_indexOfChar_7 k fu) p3 (p1.toInt8.toInt32) p2
def F_StringLatin1_indexOf (k : Nat) (p1 : Int32) (p2 : Int32) (p3 : Int32) : Option (Int32) := ((F_StringLatin1_canEncode p1).bind (fun r_6 => (if r_6 = 0 then (some (-1 : Int32)) else (if (if p2 < (0 : Int32) then (0 : Int32) else p2) < (if (Int32.ofNat (zlen.getD k 0)) < p3 then (Int32.ofNat (zlen.getD k 0)) else p3) then ((F_StringLatin1_indexOfChar k p1 (if p2 < (0 : Int32) then (0 : Int32) else p2) (if (Int32.ofNat (zlen.getD k 0)) < p3 then (Int32.ofNat (zlen.getD k 0)) else p3)).bind (fun r_9 => (some r_9))) else (some (-1 : Int32))))))
def F_String_coder (k : Nat) : Option (Int32) := (if (1 : Int32) = 0 then (some (1 : Int32)) else (some (0 : Int32)))
def F_String_length (k : Nat) : Option (Int32) := ((F_String_coder k).bind (fun r_11 => (some ((Int32.ofNat (zlen.getD k 0)) >>> (r_11 &&& 31)))))
def F_String_isLatin1 (k : Nat) : Option (Int32) := (if (1 : Int32) = 0 then (some (0 : Int32)) else (if (0 : Int32) = 0 then (some (1 : Int32)) else (some (0 : Int32))))
def F_String_indexOf2 (k : Nat) (p0 : Int32) (p1 : Int32) : Option (Int32) := ((F_String_isLatin1 k).bind (fun r_14 => (if r_14 = 0 then none else ((F_String_length k).bind (fun r_16 => ((F_StringLatin1_indexOf k p0 p1 r_16).bind (fun r_17 => (some r_17))))))))
def F_String_indexOf (k : Nat) (p0 : Int32) : Option (Int32) := ((F_String_indexOf2 k p0 (0 : Int32)).bind (fun r_18 => (some r_18)))
