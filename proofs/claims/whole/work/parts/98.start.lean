/-- the cells when both have been made -/
def csE (E : EE) : List va_E := [
  .inr (11, [.ref (eb E + (1 + 32)), .ref (eb E + (1 + 41)), .ref (eb E + (1 + 56)), .int (nI 0), .ref (eb E + (1 + 0)), .ref (eb E + (1 + 4)), .ref (eb E + (1 + 65)), .ref (eb E + (1 + 10)), .ref (eb E + (1 + 12)), .int (nI 0), .ref (eb E + (1 + 13)), .ref (eb E + (1 + 14)), .ref (eb E + (1 + 15)), .ref (eb E + (1 + 16)), .ref (eb E + (1 + 17)), .ref (eb E + (1 + 18))]),
  .inr (9, [.int (nI 0), .ref (eb E + ((1 + 1) + 0)), .ref (eb E + ((1 + 1) + 1)), .ref (eb E + ((1 + 1) + 2)), .int (nI 0), .int (nI 0)]),
  .inl (E.2.2.2.2 1, 200, .inl (fun _ => 0)),
  .inl (E.2.2.2.2 0, 201, .inl (fun _ => 0)),
  .inl (E.2.2.2.2 0, 201, .inl (fun _ => 0)),
  .inr (6, [.int (nI 0), .int (nI 0), .ref (eb E + ((1 + 5) + 0)), .ref (eb E + ((1 + 5) + 1)), .ref (eb E + ((1 + 5) + 2)), .ref (eb E + ((1 + 5) + 3)), .ref (eb E + ((1 + 5) + 4))]),
  .inl (E.2.2.2.2 0, 8, .inl (fun _ => 0)),
  .inl (E.2.2.2.2 0, 8, .inl (fun _ => 0)),
  .inl (E.2.2.2.2 0, 8, .inl (fun _ => 0)),
  .inl (E.2.2.2.2 0, 200, .inl (fun _ => 0)),
  .inl (E.2.2.2.2 0, 5, .inl (fun _ => 0)),
  .inr (8, [.ref (eb E + ((1 + 11) + 0)), .int (nI 0), .int (nI 0), .int (nI 0), .int (nI 0)]),
  .inl (E.2.2.2.2 0, 30, .inl (fun _ => 0)),
  .inl (E.2.2.2.2 0, 12, .inl (fun _ => 0)),
  .inl (E.2.2.2.2 0, 4, .inl (fun i => if i < 4 then (-1 : Int32) else (fun _ => 0) i)),
  .inl (E.2.2.2.2 0, 4, .inl (fun _ => 0)),
  .inl (E.2.2.2.2 0, 160, .inl (fun _ => 0)),
  .inl (E.2.2.2.2 0, 4, .inl (fun _ => 0)),
  .inl (E.2.2.2.2 0, 4, .inl (fun _ => 0)),
  .inl (E.2.2.2.2 0, 4, .inl (fun _ => 0)),
  .inl (E.2.2.2.2 3, 6, .inr (.inr (.inr (.inr (va_up (va_up (va_up (va_up (va_up (va_up (fun _ => none) 0 (some (eb E + (1 + 20)))) 1 (some (eb E + (1 + 21)))) 2 (some (eb E + (1 + 22)))) 3 (some (eb E + (1 + 23)))) 4 (some (eb E + (1 + 24)))) 5 (some (eb E + (1 + 25)))))))),
  .inr (4, []),
  .inr (3, []),
  .inr (7, []),
  .inr (10, []),
  .inr (2, []),
  .inr (0, []),
  .inr (6, [.int (nI 0), .int (nI 0), .ref (eb E + ((1 + 27) + 0)), .ref (eb E + ((1 + 27) + 1)), .ref (eb E + ((1 + 27) + 2)), .ref (eb E + ((1 + 27) + 3)), .ref (eb E + ((1 + 27) + 4))]),
  .inl (E.2.2.2.2 0, 8, .inl (fun _ => 0)),
  .inl (E.2.2.2.2 0, 8, .inl (fun _ => 0)),
  .inl (E.2.2.2.2 0, 8, .inl (fun _ => 0)),
  .inl (E.2.2.2.2 0, 200, .inl (fun _ => 0)),
  .inl (E.2.2.2.2 0, 5, .inl (fun _ => 0)),
  .inr (1, [.ref (eb E + (1 + 19)), .ref (eb E + (1 + 26)), .int (nI 12), .int (nI 0), .int (nI 0), .int (nI 60), .int (nI 0), .int (nI 0), .int (nI 0), .int (nI 1), .int (nI 0), .ref (eb E + ((1 + 33) + 0)), .ref (eb E + ((1 + 33) + 1)), .ref (eb E + ((1 + 33) + 2)), .ref (eb E + ((1 + 33) + 3)), .ref (eb E + ((1 + 33) + 4)), .ref (eb E + ((1 + 33) + 5)), .ref (eb E + ((1 + 33) + 6)), .ref (eb E + ((1 + 33) + 7))]),
  .inl (E.2.2.2.2 0, 16, .inl (fun i => if i < 16 then nI 4 else (fun _ => 0) i)),
  .inl (E.2.2.2.2 0, 6, .inl (fun _ => 0)),
  .inl (E.2.2.2.2 0, 6, .inl (fun i => if i < 6 then nI 3 else (fun _ => 0) i)),
  .inl (E.2.2.2.2 0, 6, .inl (fun _ => 0)),
  .inl (E.2.2.2.2 0, 6, .inl (fun _ => 0)),
  .inl (E.2.2.2.2 0, 6, .inl (fun _ => 0)),
  .inl (E.2.2.2.2 0, 6, .inl (fun _ => 0)),
  .inl (E.2.2.2.2 0, 24, .inl (fun _ => 0)),
  .inr (1, [.ref (eb E + (1 + 19)), .ref (eb E + (1 + 42)), .int (nI 12), .int (nI 0), .int (nI 0), .int (nI 60), .int (nI 0), .int (nI 0), .int (nI 0), .int (nI 1), .int (nI 0), .ref (eb E + ((1 + 48) + 0)), .ref (eb E + ((1 + 48) + 1)), .ref (eb E + ((1 + 48) + 2)), .ref (eb E + ((1 + 48) + 3)), .ref (eb E + ((1 + 48) + 4)), .ref (eb E + ((1 + 48) + 5)), .ref (eb E + ((1 + 48) + 6)), .ref (eb E + ((1 + 48) + 7))]),
  .inr (6, [.int (nI 0), .int (nI 0), .ref (eb E + ((1 + 43) + 0)), .ref (eb E + ((1 + 43) + 1)), .ref (eb E + ((1 + 43) + 2)), .ref (eb E + ((1 + 43) + 3)), .ref (eb E + ((1 + 43) + 4))]),
  .inl (E.2.2.2.2 0, 8, .inl (fun _ => 0)),
  .inl (E.2.2.2.2 0, 8, .inl (fun _ => 0)),
  .inl (E.2.2.2.2 0, 8, .inl (fun _ => 0)),
  .inl (E.2.2.2.2 0, 200, .inl (fun _ => 0)),
  .inl (E.2.2.2.2 0, 5, .inl (fun _ => 0)),
  .inl (E.2.2.2.2 0, 16, .inl (fun i => if i < 16 then nI 4 else (fun _ => 0) i)),
  .inl (E.2.2.2.2 0, 6, .inl (fun _ => 0)),
  .inl (E.2.2.2.2 0, 6, .inl (fun i => if i < 6 then nI 3 else (fun _ => 0) i)),
  .inl (E.2.2.2.2 0, 6, .inl (fun _ => 0)),
  .inl (E.2.2.2.2 0, 6, .inl (fun _ => 0)),
  .inl (E.2.2.2.2 0, 6, .inl (fun _ => 0)),
  .inl (E.2.2.2.2 0, 6, .inl (fun _ => 0)),
  .inl (E.2.2.2.2 0, 24, .inl (fun _ => 0)),
  .inr (1, [.ref (eb E + (1 + 19)), .ref (eb E + (1 + 26)), .int (nI 12), .int (nI 0), .int (nI 0), .int (nI 60), .int (nI 0), .int (nI 0), .int (nI 0), .int (nI 1), .int (nI 0), .ref (eb E + ((1 + 57) + 0)), .ref (eb E + ((1 + 57) + 1)), .ref (eb E + ((1 + 57) + 2)), .ref (eb E + ((1 + 57) + 3)), .ref (eb E + ((1 + 57) + 4)), .ref (eb E + ((1 + 57) + 5)), .ref (eb E + ((1 + 57) + 6)), .ref (eb E + ((1 + 57) + 7))]),
  .inl (E.2.2.2.2 0, 16, .inl (fun i => if i < 16 then nI 4 else (fun _ => 0) i)),
  .inl (E.2.2.2.2 0, 6, .inl (fun _ => 0)),
  .inl (E.2.2.2.2 0, 6, .inl (fun i => if i < 6 then nI 3 else (fun _ => 0) i)),
  .inl (E.2.2.2.2 0, 6, .inl (fun _ => 0)),
  .inl (E.2.2.2.2 0, 6, .inl (fun _ => 0)),
  .inl (E.2.2.2.2 0, 6, .inl (fun _ => 0)),
  .inl (E.2.2.2.2 0, 6, .inl (fun _ => 0)),
  .inl (E.2.2.2.2 0, 24, .inl (fun _ => 0)),
  .inr (5, [.ref (eb E + ((1 + 66) + 0)), .ref (eb E + ((1 + 66) + 1)), .ref (eb E + ((1 + 66) + 2)), .int (nI 0), .int (nI 0), .int (nI 0), .int (nI 0), .int (nI 0), .int (nI 0)]),
  .inl (E.2.2.2.2 4, 5, .inr (.inr (.inr (.inr (va_up (va_up (va_up (va_up (va_up (fun _ => none) 0 (some (eb E + ((1 + 66) + 3)))) 1 (some (eb E + ((1 + 66) + 12)))) 2 (some (eb E + ((1 + 66) + 21)))) 3 (some (eb E + ((1 + 66) + 30)))) 4 (some (eb E + ((1 + 66) + 39)))))))),
  .inl (E.2.2.2.2 0, 4, .inl (fun _ => 0)),
  .inl (E.2.2.2.2 0, 4, .inl (fun _ => 0)),
  .inr (1, [.ref (eb E + (1 + 19)), .ref (eb E + (1 + 26)), .int (nI 12), .int (nI 0), .int (nI 0), .int (nI 60), .int (nI 0), .int (nI 0), .int (nI 0), .int (nI 1), .int (nI 0), .ref (eb E + (((1 + 66) + 4) + 0)), .ref (eb E + (((1 + 66) + 4) + 1)), .ref (eb E + (((1 + 66) + 4) + 2)), .ref (eb E + (((1 + 66) + 4) + 3)), .ref (eb E + (((1 + 66) + 4) + 4)), .ref (eb E + (((1 + 66) + 4) + 5)), .ref (eb E + (((1 + 66) + 4) + 6)), .ref (eb E + (((1 + 66) + 4) + 7))]),
  .inl (E.2.2.2.2 0, 16, .inl (fun i => if i < 16 then nI 4 else (fun _ => 0) i)),
  .inl (E.2.2.2.2 0, 6, .inl (fun _ => 0)),
  .inl (E.2.2.2.2 0, 6, .inl (fun i => if i < 6 then nI 3 else (fun _ => 0) i)),
  .inl (E.2.2.2.2 0, 6, .inl (fun _ => 0)),
  .inl (E.2.2.2.2 0, 6, .inl (fun _ => 0)),
  .inl (E.2.2.2.2 0, 6, .inl (fun _ => 0)),
  .inl (E.2.2.2.2 0, 6, .inl (fun _ => 0)),
  .inl (E.2.2.2.2 0, 24, .inl (fun _ => 0)),
  .inr (1, [.ref (eb E + (1 + 19)), .ref (eb E + (1 + 26)), .int (nI 12), .int (nI 0), .int (nI 0), .int (nI 60), .int (nI 0), .int (nI 0), .int (nI 0), .int (nI 1), .int (nI 0), .ref (eb E + (((1 + 66) + 13) + 0)), .ref (eb E + (((1 + 66) + 13) + 1)), .ref (eb E + (((1 + 66) + 13) + 2)), .ref (eb E + (((1 + 66) + 13) + 3)), .ref (eb E + (((1 + 66) + 13) + 4)), .ref (eb E + (((1 + 66) + 13) + 5)), .ref (eb E + (((1 + 66) + 13) + 6)), .ref (eb E + (((1 + 66) + 13) + 7))]),
  .inl (E.2.2.2.2 0, 16, .inl (fun i => if i < 16 then nI 4 else (fun _ => 0) i)),
  .inl (E.2.2.2.2 0, 6, .inl (fun _ => 0)),
  .inl (E.2.2.2.2 0, 6, .inl (fun i => if i < 6 then nI 3 else (fun _ => 0) i)),
  .inl (E.2.2.2.2 0, 6, .inl (fun _ => 0)),
  .inl (E.2.2.2.2 0, 6, .inl (fun _ => 0)),
  .inl (E.2.2.2.2 0, 6, .inl (fun _ => 0)),
  .inl (E.2.2.2.2 0, 6, .inl (fun _ => 0)),
  .inl (E.2.2.2.2 0, 24, .inl (fun _ => 0)),
  .inr (1, [.ref (eb E + (1 + 19)), .ref (eb E + (1 + 26)), .int (nI 12), .int (nI 0), .int (nI 0), .int (nI 60), .int (nI 0), .int (nI 0), .int (nI 0), .int (nI 1), .int (nI 0), .ref (eb E + (((1 + 66) + 22) + 0)), .ref (eb E + (((1 + 66) + 22) + 1)), .ref (eb E + (((1 + 66) + 22) + 2)), .ref (eb E + (((1 + 66) + 22) + 3)), .ref (eb E + (((1 + 66) + 22) + 4)), .ref (eb E + (((1 + 66) + 22) + 5)), .ref (eb E + (((1 + 66) + 22) + 6)), .ref (eb E + (((1 + 66) + 22) + 7))]),
  .inl (E.2.2.2.2 0, 16, .inl (fun i => if i < 16 then nI 4 else (fun _ => 0) i)),
  .inl (E.2.2.2.2 0, 6, .inl (fun _ => 0)),
  .inl (E.2.2.2.2 0, 6, .inl (fun i => if i < 6 then nI 3 else (fun _ => 0) i)),
  .inl (E.2.2.2.2 0, 6, .inl (fun _ => 0)),
  .inl (E.2.2.2.2 0, 6, .inl (fun _ => 0)),
  .inl (E.2.2.2.2 0, 6, .inl (fun _ => 0)),
  .inl (E.2.2.2.2 0, 6, .inl (fun _ => 0)),
  .inl (E.2.2.2.2 0, 24, .inl (fun _ => 0)),
  .inr (1, [.ref (eb E + (1 + 19)), .ref (eb E + (1 + 26)), .int (nI 12), .int (nI 0), .int (nI 0), .int (nI 60), .int (nI 0), .int (nI 0), .int (nI 0), .int (nI 1), .int (nI 0), .ref (eb E + (((1 + 66) + 31) + 0)), .ref (eb E + (((1 + 66) + 31) + 1)), .ref (eb E + (((1 + 66) + 31) + 2)), .ref (eb E + (((1 + 66) + 31) + 3)), .ref (eb E + (((1 + 66) + 31) + 4)), .ref (eb E + (((1 + 66) + 31) + 5)), .ref (eb E + (((1 + 66) + 31) + 6)), .ref (eb E + (((1 + 66) + 31) + 7))]),
  .inl (E.2.2.2.2 0, 16, .inl (fun i => if i < 16 then nI 4 else (fun _ => 0) i)),
  .inl (E.2.2.2.2 0, 6, .inl (fun _ => 0)),
  .inl (E.2.2.2.2 0, 6, .inl (fun i => if i < 6 then nI 3 else (fun _ => 0) i)),
  .inl (E.2.2.2.2 0, 6, .inl (fun _ => 0)),
  .inl (E.2.2.2.2 0, 6, .inl (fun _ => 0)),
  .inl (E.2.2.2.2 0, 6, .inl (fun _ => 0)),
  .inl (E.2.2.2.2 0, 6, .inl (fun _ => 0)),
  .inl (E.2.2.2.2 0, 24, .inl (fun _ => 0)),
  .inr (1, [.ref (eb E + (1 + 19)), .ref (eb E + (1 + 26)), .int (nI 12), .int (nI 0), .int (nI 0), .int (nI 60), .int (nI 0), .int (nI 0), .int (nI 0), .int (nI 1), .int (nI 0), .ref (eb E + (((1 + 66) + 40) + 0)), .ref (eb E + (((1 + 66) + 40) + 1)), .ref (eb E + (((1 + 66) + 40) + 2)), .ref (eb E + (((1 + 66) + 40) + 3)), .ref (eb E + (((1 + 66) + 40) + 4)), .ref (eb E + (((1 + 66) + 40) + 5)), .ref (eb E + (((1 + 66) + 40) + 6)), .ref (eb E + (((1 + 66) + 40) + 7))]),
  .inl (E.2.2.2.2 0, 16, .inl (fun i => if i < 16 then nI 4 else (fun _ => 0) i)),
  .inl (E.2.2.2.2 0, 6, .inl (fun _ => 0)),
  .inl (E.2.2.2.2 0, 6, .inl (fun i => if i < 6 then nI 3 else (fun _ => 0) i)),
  .inl (E.2.2.2.2 0, 6, .inl (fun _ => 0)),
  .inl (E.2.2.2.2 0, 6, .inl (fun _ => 0)),
  .inl (E.2.2.2.2 0, 6, .inl (fun _ => 0)),
  .inl (E.2.2.2.2 0, 6, .inl (fun _ => 0)),
  .inl (E.2.2.2.2 0, 24, .inl (fun _ => 0)),
  .inr (12, [.ref (eb E + (116 + 0)), .ref (eb E + (116 + 1)), .ref (eb E + (116 + 2)), .int 0, .ref (eb E + (116 + 3)), .ref (eb E + (116 + 4)), .int 0, .ref (eb E + (116 + 5)), .int 0, .int 0, .int 0, .int 0, .int 0, .int 0, .ref (eb E + (116 + 6)), .ref (eb E + (116 + 7)), .int 0, .int 0, .ref (eb E + (116 + 8)), .ref (eb E + (116 + 9)), .ref (eb E + (116 + 10)), .int 0, .int 0, .int 0, .int 0, .ref (eb E + (116 + 11)), .int 0, .ref (eb E + (116 + 12)), .int 0, .ref (eb E + (116 + 13)), .ref (eb E + (116 + 14)), .ref (eb E + (116 + 15)), .ref (eb E + (116 + 16)), .ref (eb E + (116 + 17)), .ref (eb E + (116 + 18)), .int 0, .int 0, .int 0]),
  .inl (E.2.2.2.2 0, 322, .inl (msF)),
  .inl (E.2.2.2.2 0, 322, .inl (fun _ => 0)),
  .inl (E.2.2.2.2 0, 74, .inl (fun _ => 0)),
  .inl (E.2.2.2.2 0, 200, .inl (fun _ => 0)),
  .inl (E.2.2.2.2 0, 200, .inl (fun _ => 0)),
  .inl (E.2.2.2.2 2, 144, .inl (ltF)),
  .inl (E.2.2.2.2 0, 200, .inl (fun _ => 0)),
  .inl (E.2.2.2.2 0, 24, .inl (fun _ => 0)),
  .inl (E.2.2.2.2 0, 370, .inl (fun _ => 0)),
  .inl (E.2.2.2.2 0, 4, .inl (fun _ => 0)),
  .inl (E.2.2.2.2 0, 4, .inl (fun _ => 0)),
  .inl (E.2.2.2.2 0, 16, .inl (fun _ => 0)),
  .inl (E.2.2.2.2 0, 12, .inl (fun _ => 0)),
  .inl (E.2.2.2.2 0, 4, .inl (upd (upd (upd (upd (fun _ => 0) 0 ((-1 : Int32))) 1 ((-1 : Int32))) 2 ((-1 : Int32))) 3 ((-1 : Int32)))),
  .inl (E.2.2.2.2 0, 4, .inl (fun _ => 0)),
  .inl (E.2.2.2.2 0, 160, .inl (fun _ => 0)),
  .inl (E.2.2.2.2 0, 4, .inl (upd (upd (upd (upd (fun _ => 0) 0 ((-1 : Int32))) 1 ((-1 : Int32))) 2 ((-1 : Int32))) 3 ((-1 : Int32)))),
  .inl (E.2.2.2.2 0, 4, .inl (fun _ => 0)),
  .inl (E.2.2.2.2 0, 30, .inl (fun _ => 0))]
def i0L : List (Nat → Int32) := [
  fun j => ([0, 0, 0, nI 0, 0, 0, 0, 0, 0, nI 0, 0, 0, 0, 0, 0, 0] : List Int32).getD j 0,
  fun j => ([nI 0, 0, 0, 0, nI 0, nI 0] : List Int32).getD j 0,
  fun _ => 0,
  fun _ => 0,
  fun _ => 0,
  fun j => ([nI 0, nI 0, 0, 0, 0, 0, 0] : List Int32).getD j 0,
  fun _ => 0,
  fun _ => 0,
  fun _ => 0,
  fun _ => 0,
  fun _ => 0,
  fun j => ([0, nI 0, nI 0, nI 0, nI 0] : List Int32).getD j 0,
  fun _ => 0,
  fun _ => 0,
  fun i => if i < 4 then (-1 : Int32) else (fun _ => 0) i,
  fun _ => 0,
  fun _ => 0,
  fun _ => 0,
  fun _ => 0,
  fun _ => 0,
  fun _ => 0,
  fun _ => 0,
  fun _ => 0,
  fun _ => 0,
  fun _ => 0,
  fun _ => 0,
  fun _ => 0,
  fun j => ([nI 0, nI 0, 0, 0, 0, 0, 0] : List Int32).getD j 0,
  fun _ => 0,
  fun _ => 0,
  fun _ => 0,
  fun _ => 0,
  fun _ => 0,
  fun j => ([0, 0, nI 12, nI 0, nI 0, nI 60, nI 0, nI 0, nI 0, nI 1, nI 0, 0, 0, 0, 0, 0, 0, 0, 0] : List Int32).getD j 0,
  fun i => if i < 16 then nI 4 else (fun _ => 0) i,
  fun _ => 0,
  fun i => if i < 6 then nI 3 else (fun _ => 0) i,
  fun _ => 0,
  fun _ => 0,
  fun _ => 0,
  fun _ => 0,
  fun _ => 0,
  fun j => ([0, 0, nI 12, nI 0, nI 0, nI 60, nI 0, nI 0, nI 0, nI 1, nI 0, 0, 0, 0, 0, 0, 0, 0, 0] : List Int32).getD j 0,
  fun j => ([nI 0, nI 0, 0, 0, 0, 0, 0] : List Int32).getD j 0,
  fun _ => 0,
  fun _ => 0,
  fun _ => 0,
  fun _ => 0,
  fun _ => 0,
  fun i => if i < 16 then nI 4 else (fun _ => 0) i,
  fun _ => 0,
  fun i => if i < 6 then nI 3 else (fun _ => 0) i,
  fun _ => 0,
  fun _ => 0,
  fun _ => 0,
  fun _ => 0,
  fun _ => 0,
  fun j => ([0, 0, nI 12, nI 0, nI 0, nI 60, nI 0, nI 0, nI 0, nI 1, nI 0, 0, 0, 0, 0, 0, 0, 0, 0] : List Int32).getD j 0,
  fun i => if i < 16 then nI 4 else (fun _ => 0) i,
  fun _ => 0,
  fun i => if i < 6 then nI 3 else (fun _ => 0) i,
  fun _ => 0,
  fun _ => 0,
  fun _ => 0,
  fun _ => 0,
  fun _ => 0,
  fun j => ([0, 0, 0, nI 0, nI 0, nI 0, nI 0, nI 0, nI 0] : List Int32).getD j 0,
  fun _ => 0,
  fun _ => 0,
  fun _ => 0,
  fun j => ([0, 0, nI 12, nI 0, nI 0, nI 60, nI 0, nI 0, nI 0, nI 1, nI 0, 0, 0, 0, 0, 0, 0, 0, 0] : List Int32).getD j 0,
  fun i => if i < 16 then nI 4 else (fun _ => 0) i,
  fun _ => 0,
  fun i => if i < 6 then nI 3 else (fun _ => 0) i,
  fun _ => 0,
  fun _ => 0,
  fun _ => 0,
  fun _ => 0,
  fun _ => 0,
  fun j => ([0, 0, nI 12, nI 0, nI 0, nI 60, nI 0, nI 0, nI 0, nI 1, nI 0, 0, 0, 0, 0, 0, 0, 0, 0] : List Int32).getD j 0,
  fun i => if i < 16 then nI 4 else (fun _ => 0) i,
  fun _ => 0,
  fun i => if i < 6 then nI 3 else (fun _ => 0) i,
  fun _ => 0,
  fun _ => 0,
  fun _ => 0,
  fun _ => 0,
  fun _ => 0,
  fun j => ([0, 0, nI 12, nI 0, nI 0, nI 60, nI 0, nI 0, nI 0, nI 1, nI 0, 0, 0, 0, 0, 0, 0, 0, 0] : List Int32).getD j 0,
  fun i => if i < 16 then nI 4 else (fun _ => 0) i,
  fun _ => 0,
  fun i => if i < 6 then nI 3 else (fun _ => 0) i,
  fun _ => 0,
  fun _ => 0,
  fun _ => 0,
  fun _ => 0,
  fun _ => 0,
  fun j => ([0, 0, nI 12, nI 0, nI 0, nI 60, nI 0, nI 0, nI 0, nI 1, nI 0, 0, 0, 0, 0, 0, 0, 0, 0] : List Int32).getD j 0,
  fun i => if i < 16 then nI 4 else (fun _ => 0) i,
  fun _ => 0,
  fun i => if i < 6 then nI 3 else (fun _ => 0) i,
  fun _ => 0,
  fun _ => 0,
  fun _ => 0,
  fun _ => 0,
  fun _ => 0,
  fun j => ([0, 0, nI 12, nI 0, nI 0, nI 60, nI 0, nI 0, nI 0, nI 1, nI 0, 0, 0, 0, 0, 0, 0, 0, 0] : List Int32).getD j 0,
  fun i => if i < 16 then nI 4 else (fun _ => 0) i,
  fun _ => 0,
  fun i => if i < 6 then nI 3 else (fun _ => 0) i,
  fun _ => 0,
  fun _ => 0,
  fun _ => 0,
  fun _ => 0,
  fun _ => 0,
  fun j => ([0, 0, 0, 0, 0, 0, 0, 0, 0, 0, 0, 0, 0, 0, 0, 0, 0, 0, 0, 0, 0, 0, 0, 0, 0, 0, 0, 0, 0, 0, 0, 0, 0, 0, 0, 0, 0, 0] : List Int32).getD j 0,
  msF,
  fun _ => 0,
  fun _ => 0,
  fun _ => 0,
  fun _ => 0,
  ltF,
  fun _ => 0,
  fun _ => 0,
  fun _ => 0,
  fun _ => 0,
  fun _ => 0,
  fun _ => 0,
  fun _ => 0,
  upd (upd (upd (upd (fun _ => 0) 0 ((-1 : Int32))) 1 ((-1 : Int32))) 2 ((-1 : Int32))) 3 ((-1 : Int32)),
  fun _ => 0,
  fun _ => 0,
  upd (upd (upd (upd (fun _ => 0) 0 ((-1 : Int32))) 1 ((-1 : Int32))) 2 ((-1 : Int32))) 3 ((-1 : Int32)),
  fun _ => 0,
  fun _ => 0]
def I0 : IH := fun a => i0L.getD a (fun _ => 0)
theorem wl_wd {E : EE} {cs : List va_E} {I : IH} (h : ∀ a, cs[a]? = (shape[a]?).map (cellV E (I a))) : wl E cs = wd E I := by
  apply List.ext_getElem?
  intro i
  simp only [wl, wd, List.getElem?_mapIdx, h i, Option.map_map]
  rfl
def fvl (b : Nat) (f : Nat → Int32) : Nat → List (Option Nat) → List Value
  | _, [] => []
  | j, q :: l => fval b f j q :: fvl b f (j + 1) l
theorem fvl_eq (b : Nat) (f : Nat → Int32) (l : List (Option Nat)) : ∀ k, l.mapIdx (fun j => fval b f (j + k)) = fvl b f k l := by
  induction l with
  | nil => intro k; rfl
  | cons q l ih =>
    intro k
    rw [List.mapIdx_cons]
    have h := ih (k + 1)
    have e : (fun i => fval b f (i + 1 + k)) = fun j => fval b f (j + (k + 1)) := by funext j; rw [show j + 1 + k = j + (k + 1) by omega]
    rw [e, h, Nat.zero_add]
    rfl
theorem ceO {E : EE} {cs : List va_E} {I : IH} {a ci : Nat} {f : Nat → Int32} {l : List (Option Nat)} {vs : List Value} (h1 : cs[a]? = some (.inr (ci, vs))) (h2 : shape[a]? = some (.inl (ci, l))) (h3 : I a = f) (h4 : fvl (eb E) f 0 l = vs) : cs[a]? = (shape[a]?).map (cellV E (I a)) := by
  rw [h1, h2, h3]
  have h := fvl_eq (eb E) f l 0
  show _ = some (Sum.inr (ci, l.mapIdx (fval (eb E) f)))
  rw [← h4, ← h]
  rfl
theorem ceA {E : EE} {cs : List va_E} {I : IH} {a t n : Nat} {f : Nat → Int32} {l : List Nat} (h1 : cs[a]? = some (.inl (E.2.2.2.2 t, n, .inl f))) (h2 : shape[a]? = some (.inr (t, n, l))) (h3 : I a = f) (ht : t < 3) : cs[a]? = (shape[a]?).map (cellV E (I a)) := by
  rw [h1, h2, h3]
  simp only [Option.map_some, cellV, if_pos ht]
theorem ceQ {E : EE} {cs : List va_E} {I : IH} {a t n : Nat} {f : Nat → Option Nat} {l : List Nat} (h1 : cs[a]? = some (.inl (E.2.2.2.2 t, n, .inr (.inr (.inr (.inr f)))))) (h2 : shape[a]? = some (.inr (t, n, l))) (ht : ¬ t < 3) (h4 : ∀ j, f j = (l[j]?).map (fun q => eb E + q)) : cs[a]? = (shape[a]?).map (cellV E (I a)) := by
  rw [h1, h2, funext h4]
  simp only [Option.map_some, cellV, if_neg ht]
theorem ce0 (E : EE) : (csE E)[0]? = (shape[0]?).map (cellV E (I0 0)) := ceO (f := fun j => ([0, 0, 0, nI 0, 0, 0, 0, 0, 0, nI 0, 0, 0, 0, 0, 0, 0] : List Int32).getD j 0) rfl rfl rfl rfl
theorem ce1 (E : EE) : (csE E)[1]? = (shape[1]?).map (cellV E (I0 1)) := ceO (f := fun j => ([nI 0, 0, 0, 0, nI 0, nI 0] : List Int32).getD j 0) rfl rfl rfl rfl
theorem ce2 (E : EE) : (csE E)[2]? = (shape[2]?).map (cellV E (I0 2)) := ceA (f := fun _ => 0) rfl rfl rfl (by decide)
theorem ce3 (E : EE) : (csE E)[3]? = (shape[3]?).map (cellV E (I0 3)) := ceA (f := fun _ => 0) rfl rfl rfl (by decide)
theorem ce4 (E : EE) : (csE E)[4]? = (shape[4]?).map (cellV E (I0 4)) := ceA (f := fun _ => 0) rfl rfl rfl (by decide)
theorem ce5 (E : EE) : (csE E)[5]? = (shape[5]?).map (cellV E (I0 5)) := ceO (f := fun j => ([nI 0, nI 0, 0, 0, 0, 0, 0] : List Int32).getD j 0) rfl rfl rfl rfl
theorem ce6 (E : EE) : (csE E)[6]? = (shape[6]?).map (cellV E (I0 6)) := ceA (f := fun _ => 0) rfl rfl rfl (by decide)
theorem ce7 (E : EE) : (csE E)[7]? = (shape[7]?).map (cellV E (I0 7)) := ceA (f := fun _ => 0) rfl rfl rfl (by decide)
theorem ce8 (E : EE) : (csE E)[8]? = (shape[8]?).map (cellV E (I0 8)) := ceA (f := fun _ => 0) rfl rfl rfl (by decide)
theorem ce9 (E : EE) : (csE E)[9]? = (shape[9]?).map (cellV E (I0 9)) := ceA (f := fun _ => 0) rfl rfl rfl (by decide)
theorem ce10 (E : EE) : (csE E)[10]? = (shape[10]?).map (cellV E (I0 10)) := ceA (f := fun _ => 0) rfl rfl rfl (by decide)
theorem ce11 (E : EE) : (csE E)[11]? = (shape[11]?).map (cellV E (I0 11)) := ceO (f := fun j => ([0, nI 0, nI 0, nI 0, nI 0] : List Int32).getD j 0) rfl rfl rfl rfl
theorem ce12 (E : EE) : (csE E)[12]? = (shape[12]?).map (cellV E (I0 12)) := ceA (f := fun _ => 0) rfl rfl rfl (by decide)
theorem ce13 (E : EE) : (csE E)[13]? = (shape[13]?).map (cellV E (I0 13)) := ceA (f := fun _ => 0) rfl rfl rfl (by decide)
theorem ce14 (E : EE) : (csE E)[14]? = (shape[14]?).map (cellV E (I0 14)) := ceA (f := fun i => if i < 4 then (-1 : Int32) else (fun _ => 0) i) rfl rfl rfl (by decide)
theorem ce15 (E : EE) : (csE E)[15]? = (shape[15]?).map (cellV E (I0 15)) := ceA (f := fun _ => 0) rfl rfl rfl (by decide)
theorem ce16 (E : EE) : (csE E)[16]? = (shape[16]?).map (cellV E (I0 16)) := ceA (f := fun _ => 0) rfl rfl rfl (by decide)
theorem ce17 (E : EE) : (csE E)[17]? = (shape[17]?).map (cellV E (I0 17)) := ceA (f := fun _ => 0) rfl rfl rfl (by decide)
theorem ce18 (E : EE) : (csE E)[18]? = (shape[18]?).map (cellV E (I0 18)) := ceA (f := fun _ => 0) rfl rfl rfl (by decide)
theorem ce19 (E : EE) : (csE E)[19]? = (shape[19]?).map (cellV E (I0 19)) := ceA (f := fun _ => 0) rfl rfl rfl (by decide)
theorem ce20 (E : EE) : (csE E)[20]? = (shape[20]?).map (cellV E (I0 20)) := ceQ rfl rfl (by decide) (fun j => match j with
  | 0 => rfl
  | 1 => rfl
  | 2 => rfl
  | 3 => rfl
  | 4 => rfl
  | 5 => rfl
  | k + 6 => rfl)
theorem ce21 (E : EE) : (csE E)[21]? = (shape[21]?).map (cellV E (I0 21)) := ceO (f := fun _ => 0) rfl rfl rfl rfl
theorem ce22 (E : EE) : (csE E)[22]? = (shape[22]?).map (cellV E (I0 22)) := ceO (f := fun _ => 0) rfl rfl rfl rfl
theorem ce23 (E : EE) : (csE E)[23]? = (shape[23]?).map (cellV E (I0 23)) := ceO (f := fun _ => 0) rfl rfl rfl rfl
theorem ce24 (E : EE) : (csE E)[24]? = (shape[24]?).map (cellV E (I0 24)) := ceO (f := fun _ => 0) rfl rfl rfl rfl
theorem ce25 (E : EE) : (csE E)[25]? = (shape[25]?).map (cellV E (I0 25)) := ceO (f := fun _ => 0) rfl rfl rfl rfl
theorem ce26 (E : EE) : (csE E)[26]? = (shape[26]?).map (cellV E (I0 26)) := ceO (f := fun _ => 0) rfl rfl rfl rfl
theorem ce27 (E : EE) : (csE E)[27]? = (shape[27]?).map (cellV E (I0 27)) := ceO (f := fun j => ([nI 0, nI 0, 0, 0, 0, 0, 0] : List Int32).getD j 0) rfl rfl rfl rfl
theorem ce28 (E : EE) : (csE E)[28]? = (shape[28]?).map (cellV E (I0 28)) := ceA (f := fun _ => 0) rfl rfl rfl (by decide)
theorem ce29 (E : EE) : (csE E)[29]? = (shape[29]?).map (cellV E (I0 29)) := ceA (f := fun _ => 0) rfl rfl rfl (by decide)
theorem ce30 (E : EE) : (csE E)[30]? = (shape[30]?).map (cellV E (I0 30)) := ceA (f := fun _ => 0) rfl rfl rfl (by decide)
theorem ce31 (E : EE) : (csE E)[31]? = (shape[31]?).map (cellV E (I0 31)) := ceA (f := fun _ => 0) rfl rfl rfl (by decide)
theorem ce32 (E : EE) : (csE E)[32]? = (shape[32]?).map (cellV E (I0 32)) := ceA (f := fun _ => 0) rfl rfl rfl (by decide)
theorem ce33 (E : EE) : (csE E)[33]? = (shape[33]?).map (cellV E (I0 33)) := ceO (f := fun j => ([0, 0, nI 12, nI 0, nI 0, nI 60, nI 0, nI 0, nI 0, nI 1, nI 0, 0, 0, 0, 0, 0, 0, 0, 0] : List Int32).getD j 0) rfl rfl rfl rfl
theorem ce34 (E : EE) : (csE E)[34]? = (shape[34]?).map (cellV E (I0 34)) := ceA (f := fun i => if i < 16 then nI 4 else (fun _ => 0) i) rfl rfl rfl (by decide)
theorem ce35 (E : EE) : (csE E)[35]? = (shape[35]?).map (cellV E (I0 35)) := ceA (f := fun _ => 0) rfl rfl rfl (by decide)
theorem ce36 (E : EE) : (csE E)[36]? = (shape[36]?).map (cellV E (I0 36)) := ceA (f := fun i => if i < 6 then nI 3 else (fun _ => 0) i) rfl rfl rfl (by decide)
theorem ce37 (E : EE) : (csE E)[37]? = (shape[37]?).map (cellV E (I0 37)) := ceA (f := fun _ => 0) rfl rfl rfl (by decide)
theorem ce38 (E : EE) : (csE E)[38]? = (shape[38]?).map (cellV E (I0 38)) := ceA (f := fun _ => 0) rfl rfl rfl (by decide)
theorem ce39 (E : EE) : (csE E)[39]? = (shape[39]?).map (cellV E (I0 39)) := ceA (f := fun _ => 0) rfl rfl rfl (by decide)
theorem ce40 (E : EE) : (csE E)[40]? = (shape[40]?).map (cellV E (I0 40)) := ceA (f := fun _ => 0) rfl rfl rfl (by decide)
theorem ce41 (E : EE) : (csE E)[41]? = (shape[41]?).map (cellV E (I0 41)) := ceA (f := fun _ => 0) rfl rfl rfl (by decide)
theorem ce42 (E : EE) : (csE E)[42]? = (shape[42]?).map (cellV E (I0 42)) := ceO (f := fun j => ([0, 0, nI 12, nI 0, nI 0, nI 60, nI 0, nI 0, nI 0, nI 1, nI 0, 0, 0, 0, 0, 0, 0, 0, 0] : List Int32).getD j 0) rfl rfl rfl rfl
theorem ce43 (E : EE) : (csE E)[43]? = (shape[43]?).map (cellV E (I0 43)) := ceO (f := fun j => ([nI 0, nI 0, 0, 0, 0, 0, 0] : List Int32).getD j 0) rfl rfl rfl rfl
theorem ce44 (E : EE) : (csE E)[44]? = (shape[44]?).map (cellV E (I0 44)) := ceA (f := fun _ => 0) rfl rfl rfl (by decide)
theorem ce45 (E : EE) : (csE E)[45]? = (shape[45]?).map (cellV E (I0 45)) := ceA (f := fun _ => 0) rfl rfl rfl (by decide)
theorem ce46 (E : EE) : (csE E)[46]? = (shape[46]?).map (cellV E (I0 46)) := ceA (f := fun _ => 0) rfl rfl rfl (by decide)
theorem ce47 (E : EE) : (csE E)[47]? = (shape[47]?).map (cellV E (I0 47)) := ceA (f := fun _ => 0) rfl rfl rfl (by decide)
theorem ce48 (E : EE) : (csE E)[48]? = (shape[48]?).map (cellV E (I0 48)) := ceA (f := fun _ => 0) rfl rfl rfl (by decide)
theorem ce49 (E : EE) : (csE E)[49]? = (shape[49]?).map (cellV E (I0 49)) := ceA (f := fun i => if i < 16 then nI 4 else (fun _ => 0) i) rfl rfl rfl (by decide)
theorem ce50 (E : EE) : (csE E)[50]? = (shape[50]?).map (cellV E (I0 50)) := ceA (f := fun _ => 0) rfl rfl rfl (by decide)
theorem ce51 (E : EE) : (csE E)[51]? = (shape[51]?).map (cellV E (I0 51)) := ceA (f := fun i => if i < 6 then nI 3 else (fun _ => 0) i) rfl rfl rfl (by decide)
theorem ce52 (E : EE) : (csE E)[52]? = (shape[52]?).map (cellV E (I0 52)) := ceA (f := fun _ => 0) rfl rfl rfl (by decide)
theorem ce53 (E : EE) : (csE E)[53]? = (shape[53]?).map (cellV E (I0 53)) := ceA (f := fun _ => 0) rfl rfl rfl (by decide)
theorem ce54 (E : EE) : (csE E)[54]? = (shape[54]?).map (cellV E (I0 54)) := ceA (f := fun _ => 0) rfl rfl rfl (by decide)
theorem ce55 (E : EE) : (csE E)[55]? = (shape[55]?).map (cellV E (I0 55)) := ceA (f := fun _ => 0) rfl rfl rfl (by decide)
theorem ce56 (E : EE) : (csE E)[56]? = (shape[56]?).map (cellV E (I0 56)) := ceA (f := fun _ => 0) rfl rfl rfl (by decide)
theorem ce57 (E : EE) : (csE E)[57]? = (shape[57]?).map (cellV E (I0 57)) := ceO (f := fun j => ([0, 0, nI 12, nI 0, nI 0, nI 60, nI 0, nI 0, nI 0, nI 1, nI 0, 0, 0, 0, 0, 0, 0, 0, 0] : List Int32).getD j 0) rfl rfl rfl rfl
theorem ce58 (E : EE) : (csE E)[58]? = (shape[58]?).map (cellV E (I0 58)) := ceA (f := fun i => if i < 16 then nI 4 else (fun _ => 0) i) rfl rfl rfl (by decide)
theorem ce59 (E : EE) : (csE E)[59]? = (shape[59]?).map (cellV E (I0 59)) := ceA (f := fun _ => 0) rfl rfl rfl (by decide)
theorem ce60 (E : EE) : (csE E)[60]? = (shape[60]?).map (cellV E (I0 60)) := ceA (f := fun i => if i < 6 then nI 3 else (fun _ => 0) i) rfl rfl rfl (by decide)
theorem ce61 (E : EE) : (csE E)[61]? = (shape[61]?).map (cellV E (I0 61)) := ceA (f := fun _ => 0) rfl rfl rfl (by decide)
theorem ce62 (E : EE) : (csE E)[62]? = (shape[62]?).map (cellV E (I0 62)) := ceA (f := fun _ => 0) rfl rfl rfl (by decide)
theorem ce63 (E : EE) : (csE E)[63]? = (shape[63]?).map (cellV E (I0 63)) := ceA (f := fun _ => 0) rfl rfl rfl (by decide)
theorem ce64 (E : EE) : (csE E)[64]? = (shape[64]?).map (cellV E (I0 64)) := ceA (f := fun _ => 0) rfl rfl rfl (by decide)
theorem ce65 (E : EE) : (csE E)[65]? = (shape[65]?).map (cellV E (I0 65)) := ceA (f := fun _ => 0) rfl rfl rfl (by decide)
theorem ce66 (E : EE) : (csE E)[66]? = (shape[66]?).map (cellV E (I0 66)) := ceO (f := fun j => ([0, 0, 0, nI 0, nI 0, nI 0, nI 0, nI 0, nI 0] : List Int32).getD j 0) rfl rfl rfl rfl
theorem ce67 (E : EE) : (csE E)[67]? = (shape[67]?).map (cellV E (I0 67)) := ceQ rfl rfl (by decide) (fun j => match j with
  | 0 => rfl
  | 1 => rfl
  | 2 => rfl
  | 3 => rfl
  | 4 => rfl
  | k + 5 => rfl)
theorem ce68 (E : EE) : (csE E)[68]? = (shape[68]?).map (cellV E (I0 68)) := ceA (f := fun _ => 0) rfl rfl rfl (by decide)
theorem ce69 (E : EE) : (csE E)[69]? = (shape[69]?).map (cellV E (I0 69)) := ceA (f := fun _ => 0) rfl rfl rfl (by decide)
theorem ce70 (E : EE) : (csE E)[70]? = (shape[70]?).map (cellV E (I0 70)) := ceO (f := fun j => ([0, 0, nI 12, nI 0, nI 0, nI 60, nI 0, nI 0, nI 0, nI 1, nI 0, 0, 0, 0, 0, 0, 0, 0, 0] : List Int32).getD j 0) rfl rfl rfl rfl
theorem ce71 (E : EE) : (csE E)[71]? = (shape[71]?).map (cellV E (I0 71)) := ceA (f := fun i => if i < 16 then nI 4 else (fun _ => 0) i) rfl rfl rfl (by decide)
theorem ce72 (E : EE) : (csE E)[72]? = (shape[72]?).map (cellV E (I0 72)) := ceA (f := fun _ => 0) rfl rfl rfl (by decide)
theorem ce73 (E : EE) : (csE E)[73]? = (shape[73]?).map (cellV E (I0 73)) := ceA (f := fun i => if i < 6 then nI 3 else (fun _ => 0) i) rfl rfl rfl (by decide)
theorem ce74 (E : EE) : (csE E)[74]? = (shape[74]?).map (cellV E (I0 74)) := ceA (f := fun _ => 0) rfl rfl rfl (by decide)
theorem ce75 (E : EE) : (csE E)[75]? = (shape[75]?).map (cellV E (I0 75)) := ceA (f := fun _ => 0) rfl rfl rfl (by decide)
theorem ce76 (E : EE) : (csE E)[76]? = (shape[76]?).map (cellV E (I0 76)) := ceA (f := fun _ => 0) rfl rfl rfl (by decide)
theorem ce77 (E : EE) : (csE E)[77]? = (shape[77]?).map (cellV E (I0 77)) := ceA (f := fun _ => 0) rfl rfl rfl (by decide)
theorem ce78 (E : EE) : (csE E)[78]? = (shape[78]?).map (cellV E (I0 78)) := ceA (f := fun _ => 0) rfl rfl rfl (by decide)
theorem ce79 (E : EE) : (csE E)[79]? = (shape[79]?).map (cellV E (I0 79)) := ceO (f := fun j => ([0, 0, nI 12, nI 0, nI 0, nI 60, nI 0, nI 0, nI 0, nI 1, nI 0, 0, 0, 0, 0, 0, 0, 0, 0] : List Int32).getD j 0) rfl rfl rfl rfl
theorem ce80 (E : EE) : (csE E)[80]? = (shape[80]?).map (cellV E (I0 80)) := ceA (f := fun i => if i < 16 then nI 4 else (fun _ => 0) i) rfl rfl rfl (by decide)
theorem ce81 (E : EE) : (csE E)[81]? = (shape[81]?).map (cellV E (I0 81)) := ceA (f := fun _ => 0) rfl rfl rfl (by decide)
theorem ce82 (E : EE) : (csE E)[82]? = (shape[82]?).map (cellV E (I0 82)) := ceA (f := fun i => if i < 6 then nI 3 else (fun _ => 0) i) rfl rfl rfl (by decide)
theorem ce83 (E : EE) : (csE E)[83]? = (shape[83]?).map (cellV E (I0 83)) := ceA (f := fun _ => 0) rfl rfl rfl (by decide)
theorem ce84 (E : EE) : (csE E)[84]? = (shape[84]?).map (cellV E (I0 84)) := ceA (f := fun _ => 0) rfl rfl rfl (by decide)
theorem ce85 (E : EE) : (csE E)[85]? = (shape[85]?).map (cellV E (I0 85)) := ceA (f := fun _ => 0) rfl rfl rfl (by decide)
theorem ce86 (E : EE) : (csE E)[86]? = (shape[86]?).map (cellV E (I0 86)) := ceA (f := fun _ => 0) rfl rfl rfl (by decide)
theorem ce87 (E : EE) : (csE E)[87]? = (shape[87]?).map (cellV E (I0 87)) := ceA (f := fun _ => 0) rfl rfl rfl (by decide)
theorem ce88 (E : EE) : (csE E)[88]? = (shape[88]?).map (cellV E (I0 88)) := ceO (f := fun j => ([0, 0, nI 12, nI 0, nI 0, nI 60, nI 0, nI 0, nI 0, nI 1, nI 0, 0, 0, 0, 0, 0, 0, 0, 0] : List Int32).getD j 0) rfl rfl rfl rfl
theorem ce89 (E : EE) : (csE E)[89]? = (shape[89]?).map (cellV E (I0 89)) := ceA (f := fun i => if i < 16 then nI 4 else (fun _ => 0) i) rfl rfl rfl (by decide)
theorem ce90 (E : EE) : (csE E)[90]? = (shape[90]?).map (cellV E (I0 90)) := ceA (f := fun _ => 0) rfl rfl rfl (by decide)
theorem ce91 (E : EE) : (csE E)[91]? = (shape[91]?).map (cellV E (I0 91)) := ceA (f := fun i => if i < 6 then nI 3 else (fun _ => 0) i) rfl rfl rfl (by decide)
theorem ce92 (E : EE) : (csE E)[92]? = (shape[92]?).map (cellV E (I0 92)) := ceA (f := fun _ => 0) rfl rfl rfl (by decide)
theorem ce93 (E : EE) : (csE E)[93]? = (shape[93]?).map (cellV E (I0 93)) := ceA (f := fun _ => 0) rfl rfl rfl (by decide)
theorem ce94 (E : EE) : (csE E)[94]? = (shape[94]?).map (cellV E (I0 94)) := ceA (f := fun _ => 0) rfl rfl rfl (by decide)
theorem ce95 (E : EE) : (csE E)[95]? = (shape[95]?).map (cellV E (I0 95)) := ceA (f := fun _ => 0) rfl rfl rfl (by decide)
theorem ce96 (E : EE) : (csE E)[96]? = (shape[96]?).map (cellV E (I0 96)) := ceA (f := fun _ => 0) rfl rfl rfl (by decide)
theorem ce97 (E : EE) : (csE E)[97]? = (shape[97]?).map (cellV E (I0 97)) := ceO (f := fun j => ([0, 0, nI 12, nI 0, nI 0, nI 60, nI 0, nI 0, nI 0, nI 1, nI 0, 0, 0, 0, 0, 0, 0, 0, 0] : List Int32).getD j 0) rfl rfl rfl rfl
theorem ce98 (E : EE) : (csE E)[98]? = (shape[98]?).map (cellV E (I0 98)) := ceA (f := fun i => if i < 16 then nI 4 else (fun _ => 0) i) rfl rfl rfl (by decide)
theorem ce99 (E : EE) : (csE E)[99]? = (shape[99]?).map (cellV E (I0 99)) := ceA (f := fun _ => 0) rfl rfl rfl (by decide)
theorem ce100 (E : EE) : (csE E)[100]? = (shape[100]?).map (cellV E (I0 100)) := ceA (f := fun i => if i < 6 then nI 3 else (fun _ => 0) i) rfl rfl rfl (by decide)
theorem ce101 (E : EE) : (csE E)[101]? = (shape[101]?).map (cellV E (I0 101)) := ceA (f := fun _ => 0) rfl rfl rfl (by decide)
theorem ce102 (E : EE) : (csE E)[102]? = (shape[102]?).map (cellV E (I0 102)) := ceA (f := fun _ => 0) rfl rfl rfl (by decide)
theorem ce103 (E : EE) : (csE E)[103]? = (shape[103]?).map (cellV E (I0 103)) := ceA (f := fun _ => 0) rfl rfl rfl (by decide)
theorem ce104 (E : EE) : (csE E)[104]? = (shape[104]?).map (cellV E (I0 104)) := ceA (f := fun _ => 0) rfl rfl rfl (by decide)
theorem ce105 (E : EE) : (csE E)[105]? = (shape[105]?).map (cellV E (I0 105)) := ceA (f := fun _ => 0) rfl rfl rfl (by decide)
theorem ce106 (E : EE) : (csE E)[106]? = (shape[106]?).map (cellV E (I0 106)) := ceO (f := fun j => ([0, 0, nI 12, nI 0, nI 0, nI 60, nI 0, nI 0, nI 0, nI 1, nI 0, 0, 0, 0, 0, 0, 0, 0, 0] : List Int32).getD j 0) rfl rfl rfl rfl
theorem ce107 (E : EE) : (csE E)[107]? = (shape[107]?).map (cellV E (I0 107)) := ceA (f := fun i => if i < 16 then nI 4 else (fun _ => 0) i) rfl rfl rfl (by decide)
theorem ce108 (E : EE) : (csE E)[108]? = (shape[108]?).map (cellV E (I0 108)) := ceA (f := fun _ => 0) rfl rfl rfl (by decide)
theorem ce109 (E : EE) : (csE E)[109]? = (shape[109]?).map (cellV E (I0 109)) := ceA (f := fun i => if i < 6 then nI 3 else (fun _ => 0) i) rfl rfl rfl (by decide)
theorem ce110 (E : EE) : (csE E)[110]? = (shape[110]?).map (cellV E (I0 110)) := ceA (f := fun _ => 0) rfl rfl rfl (by decide)
theorem ce111 (E : EE) : (csE E)[111]? = (shape[111]?).map (cellV E (I0 111)) := ceA (f := fun _ => 0) rfl rfl rfl (by decide)
theorem ce112 (E : EE) : (csE E)[112]? = (shape[112]?).map (cellV E (I0 112)) := ceA (f := fun _ => 0) rfl rfl rfl (by decide)
theorem ce113 (E : EE) : (csE E)[113]? = (shape[113]?).map (cellV E (I0 113)) := ceA (f := fun _ => 0) rfl rfl rfl (by decide)
theorem ce114 (E : EE) : (csE E)[114]? = (shape[114]?).map (cellV E (I0 114)) := ceA (f := fun _ => 0) rfl rfl rfl (by decide)
theorem ce115 (E : EE) : (csE E)[115]? = (shape[115]?).map (cellV E (I0 115)) := ceO (f := fun j => ([0, 0, 0, 0, 0, 0, 0, 0, 0, 0, 0, 0, 0, 0, 0, 0, 0, 0, 0, 0, 0, 0, 0, 0, 0, 0, 0, 0, 0, 0, 0, 0, 0, 0, 0, 0, 0, 0] : List Int32).getD j 0) rfl rfl rfl rfl
theorem ce116 (E : EE) : (csE E)[116]? = (shape[116]?).map (cellV E (I0 116)) := ceA (f := msF) rfl rfl rfl (by decide)
theorem ce117 (E : EE) : (csE E)[117]? = (shape[117]?).map (cellV E (I0 117)) := ceA (f := fun _ => 0) rfl rfl rfl (by decide)
theorem ce118 (E : EE) : (csE E)[118]? = (shape[118]?).map (cellV E (I0 118)) := ceA (f := fun _ => 0) rfl rfl rfl (by decide)
theorem ce119 (E : EE) : (csE E)[119]? = (shape[119]?).map (cellV E (I0 119)) := ceA (f := fun _ => 0) rfl rfl rfl (by decide)
theorem ce120 (E : EE) : (csE E)[120]? = (shape[120]?).map (cellV E (I0 120)) := ceA (f := fun _ => 0) rfl rfl rfl (by decide)
theorem ce121 (E : EE) : (csE E)[121]? = (shape[121]?).map (cellV E (I0 121)) := ceA (f := ltF) rfl rfl rfl (by decide)
theorem ce122 (E : EE) : (csE E)[122]? = (shape[122]?).map (cellV E (I0 122)) := ceA (f := fun _ => 0) rfl rfl rfl (by decide)
theorem ce123 (E : EE) : (csE E)[123]? = (shape[123]?).map (cellV E (I0 123)) := ceA (f := fun _ => 0) rfl rfl rfl (by decide)
theorem ce124 (E : EE) : (csE E)[124]? = (shape[124]?).map (cellV E (I0 124)) := ceA (f := fun _ => 0) rfl rfl rfl (by decide)
theorem ce125 (E : EE) : (csE E)[125]? = (shape[125]?).map (cellV E (I0 125)) := ceA (f := fun _ => 0) rfl rfl rfl (by decide)
theorem ce126 (E : EE) : (csE E)[126]? = (shape[126]?).map (cellV E (I0 126)) := ceA (f := fun _ => 0) rfl rfl rfl (by decide)
theorem ce127 (E : EE) : (csE E)[127]? = (shape[127]?).map (cellV E (I0 127)) := ceA (f := fun _ => 0) rfl rfl rfl (by decide)
theorem ce128 (E : EE) : (csE E)[128]? = (shape[128]?).map (cellV E (I0 128)) := ceA (f := fun _ => 0) rfl rfl rfl (by decide)
theorem ce129 (E : EE) : (csE E)[129]? = (shape[129]?).map (cellV E (I0 129)) := ceA (f := upd (upd (upd (upd (fun _ => 0) 0 ((-1 : Int32))) 1 ((-1 : Int32))) 2 ((-1 : Int32))) 3 ((-1 : Int32))) rfl rfl rfl (by decide)
theorem ce130 (E : EE) : (csE E)[130]? = (shape[130]?).map (cellV E (I0 130)) := ceA (f := fun _ => 0) rfl rfl rfl (by decide)
theorem ce131 (E : EE) : (csE E)[131]? = (shape[131]?).map (cellV E (I0 131)) := ceA (f := fun _ => 0) rfl rfl rfl (by decide)
theorem ce132 (E : EE) : (csE E)[132]? = (shape[132]?).map (cellV E (I0 132)) := ceA (f := upd (upd (upd (upd (fun _ => 0) 0 ((-1 : Int32))) 1 ((-1 : Int32))) 2 ((-1 : Int32))) 3 ((-1 : Int32))) rfl rfl rfl (by decide)
theorem ce133 (E : EE) : (csE E)[133]? = (shape[133]?).map (cellV E (I0 133)) := ceA (f := fun _ => 0) rfl rfl rfl (by decide)
theorem ce134 (E : EE) : (csE E)[134]? = (shape[134]?).map (cellV E (I0 134)) := ceA (f := fun _ => 0) rfl rfl rfl (by decide)
theorem ce_all (E : EE) : ∀ a, (csE E)[a]? = (shape[a]?).map (cellV E (I0 a)) := fun a => match a with
  | 0 => ce0 E
  | 1 => ce1 E
  | 2 => ce2 E
  | 3 => ce3 E
  | 4 => ce4 E
  | 5 => ce5 E
  | 6 => ce6 E
  | 7 => ce7 E
  | 8 => ce8 E
  | 9 => ce9 E
  | 10 => ce10 E
  | 11 => ce11 E
  | 12 => ce12 E
  | 13 => ce13 E
  | 14 => ce14 E
  | 15 => ce15 E
  | 16 => ce16 E
  | 17 => ce17 E
  | 18 => ce18 E
  | 19 => ce19 E
  | 20 => ce20 E
  | 21 => ce21 E
  | 22 => ce22 E
  | 23 => ce23 E
  | 24 => ce24 E
  | 25 => ce25 E
  | 26 => ce26 E
  | 27 => ce27 E
  | 28 => ce28 E
  | 29 => ce29 E
  | 30 => ce30 E
  | 31 => ce31 E
  | 32 => ce32 E
  | 33 => ce33 E
  | 34 => ce34 E
  | 35 => ce35 E
  | 36 => ce36 E
  | 37 => ce37 E
  | 38 => ce38 E
  | 39 => ce39 E
  | 40 => ce40 E
  | 41 => ce41 E
  | 42 => ce42 E
  | 43 => ce43 E
  | 44 => ce44 E
  | 45 => ce45 E
  | 46 => ce46 E
  | 47 => ce47 E
  | 48 => ce48 E
  | 49 => ce49 E
  | 50 => ce50 E
  | 51 => ce51 E
  | 52 => ce52 E
  | 53 => ce53 E
  | 54 => ce54 E
  | 55 => ce55 E
  | 56 => ce56 E
  | 57 => ce57 E
  | 58 => ce58 E
  | 59 => ce59 E
  | 60 => ce60 E
  | 61 => ce61 E
  | 62 => ce62 E
  | 63 => ce63 E
  | 64 => ce64 E
  | 65 => ce65 E
  | 66 => ce66 E
  | 67 => ce67 E
  | 68 => ce68 E
  | 69 => ce69 E
  | 70 => ce70 E
  | 71 => ce71 E
  | 72 => ce72 E
  | 73 => ce73 E
  | 74 => ce74 E
  | 75 => ce75 E
  | 76 => ce76 E
  | 77 => ce77 E
  | 78 => ce78 E
  | 79 => ce79 E
  | 80 => ce80 E
  | 81 => ce81 E
  | 82 => ce82 E
  | 83 => ce83 E
  | 84 => ce84 E
  | 85 => ce85 E
  | 86 => ce86 E
  | 87 => ce87 E
  | 88 => ce88 E
  | 89 => ce89 E
  | 90 => ce90 E
  | 91 => ce91 E
  | 92 => ce92 E
  | 93 => ce93 E
  | 94 => ce94 E
  | 95 => ce95 E
  | 96 => ce96 E
  | 97 => ce97 E
  | 98 => ce98 E
  | 99 => ce99 E
  | 100 => ce100 E
  | 101 => ce101 E
  | 102 => ce102 E
  | 103 => ce103 E
  | 104 => ce104 E
  | 105 => ce105 E
  | 106 => ce106 E
  | 107 => ce107 E
  | 108 => ce108 E
  | 109 => ce109 E
  | 110 => ce110 E
  | 111 => ce111 E
  | 112 => ce112 E
  | 113 => ce113 E
  | 114 => ce114 E
  | 115 => ce115 E
  | 116 => ce116 E
  | 117 => ce117 E
  | 118 => ce118 E
  | 119 => ce119 E
  | 120 => ce120 E
  | 121 => ce121 E
  | 122 => ce122 E
  | 123 => ce123 E
  | 124 => ce124 E
  | 125 => ce125 E
  | 126 => ce126 E
  | 127 => ce127 E
  | 128 => ce128 E
  | 129 => ce129 E
  | 130 => ce130 E
  | 131 => ce131 E
  | 132 => ce132 E
  | 133 => ce133 E
  | 134 => ce134 E
  | k + 135 => rfl
theorem wl_I0 (E : EE) : wl E (csE E) = wd E I0 := wl_wd (ce_all E)
def T0 : Nat → Nat := fun j => if j = 1 then 12 else if j = 4 then 60 else if 10 ≤ j ∧ j < 26 then 4 else if 32 ≤ j ∧ j < 38 then 3 else 0
theorem i0_rm : RM I0 T0 := by unfold RM; decide +kernel
theorem i0_wf : Wf T0 := by unfold Wf WfE WfR WfQ; refine ⟨⟨by decide, by decide, by decide, by decide, by decide, by decide, by decide, fun k h => absurd h (Nat.not_lt_zero k)⟩, ⟨by decide, fun k h => absurd h (Nat.not_lt_zero k)⟩, ⟨by decide, fun k h => absurd h (Nat.not_lt_zero k)⟩, by decide, by decide⟩
theorem i0_ev : EvR I0 33 34 T0 := ⟨by decide +kernel, by decide +kernel, by decide +kernel, by decide +kernel, by decide +kernel, by decide +kernel, by decide +kernel, by decide +kernel, by decide +kernel, by decide +kernel, fun k h => absurd h (Nat.not_lt_zero k), fun k h => absurd h (Nat.not_lt_zero k), fun k h => absurd h (Nat.not_lt_zero k), fun k h => absurd h (Nat.not_lt_zero k), fun k h => absurd h (Nat.not_lt_zero k)⟩
theorem i0_ru : RuR I0 27 T0 := ⟨by decide +kernel, fun _ => 0, rfl, fun k h => absurd h (Nat.not_lt_zero k)⟩
theorem i0_oth : Oth I0 := ⟨Or.inl ⟨by decide +kernel, by decide +kernel⟩, ⟨0, by decide, by decide +kernel, by decide +kernel, fun k h => absurd h (Nat.not_lt_zero k)⟩, ⟨0, by decide, by decide +kernel, by decide +kernel, fun k h => absurd h (Nat.not_lt_zero k)⟩, ⟨fun q hq => ⟨by revert q hq; decide +kernel, by revert q hq; decide +kernel, Or.inl ⟨by revert q hq; decide +kernel, by revert q hq; decide +kernel⟩⟩, by decide +kernel, by decide +kernel⟩, fun q hq => Or.inl ⟨by revert q hq; decide +kernel, by revert q hq; decide +kernel⟩, ⟨0, by decide, by decide +kernel, by decide +kernel, fun k h => absurd h (Nat.not_lt_zero k)⟩⟩
theorem i0_inv : Inv I0 := ⟨T0, i0_rm, i0_wf, ⟨i0_ev, i0_ru⟩, by decide +kernel, by decide +kernel, i0_oth⟩
