abbrev z_cl : List vw_C := [(RX0, TX0, 10), (RX1, TX1, 18), (RX2, TX2, 12), (RX3, TX3, 2), (RX4, TX4, 5), (RX5, TX5, 1), (RX6, TX6, 10), (RX7, TX7, 5), (RX8, TX8, 5), (RX9, TX9, 27)]
abbrev z_ty (E : zE) : List (ClassId × FieldType) := [(z_cy E 0, .int), (z_cy E 1, .byte), (z_cy E 2, .boolean), (z_cy E 3, .long), (z_cy E 4, .object RX1), (z_cy E 5, .object RX2), (z_cy E 6, .object RX7)]
/-- the cell of a name, out of its rows -/
def z_cell (E : zE) (r : Nat → Int32) (h : Nat → Int64) (a : zJ) : va_E :=
  if a.1 = 0 then .inr (7, [.ref (z_ad E (1, a.2.1, 0)), .ref (z_ad E (2, a.2.1, 0)), .ref (z_ad E (4, a.2.1, 0)), .int (r 3), .int (r 4)]) else
  if a.1 = 1 then .inl (z_cy E 4, 7, .inr (.inr (.inr (.inr (fun j => some (z_ad E (10, a.2.1, j))))))) else
  if a.1 = 2 then .inr (3, [.ref (z_ad E (3, a.2.1, 0)), .ref (z_ad E (20, a.2.1, 40))]) else
  if a.1 = 3 then .inl (z_cy E 5, 40, .inr (.inr (.inr (.inr (fun j => some (z_ad E (20, a.2.1, j))))))) else
  if a.1 = 4 then .inr (4, [.ref (z_ad E (5, a.2.1, 0)), .ref (z_ad E (6, a.2.1, 0)), .ref (z_ad E (7, a.2.1, 0)), .ref (z_ad E (8, a.2.1, 0)), .int (r 4)]) else
  if a.1 = 5 then .inl (z_cy E 0, 40, .inl r) else
  if a.1 = 6 then .inl (z_cy E 0, 40, .inl r) else
  if a.1 = 7 then .inl (z_cy E 0, 40, .inl r) else
  if a.1 = 8 then .inl (z_cy E 0, 40, .inl r) else
  if a.1 = 10 then .inr (1, [.int (r 0), .int (r 1), .int (r 2), .int (r 3), .int (r 4), .int (r 5), .int (r 6), .int (r 7), .int (r 8), .int (r 9), .int (r 10), .ref (z_ad E (11, a.2.1, a.2.2)), .ref (z_ad E (12, a.2.1, a.2.2)), .ref (z_ad E (14, a.2.1, a.2.2)), .ref (z_ad E (16, a.2.1, a.2.2)), .ref (z_ad E (17, a.2.1, a.2.2)), .ref (z_ad E (18, a.2.1, a.2.2)), .ref (z_ad E (19, a.2.1, a.2.2))]) else
  if a.1 = 11 then .inl (z_cy E 0, 240, .inl r) else
  if a.1 = 12 then .inr (5, [.ref (z_ad E (z_nx a))]) else
  if a.1 = 13 then .inl (z_cy E 0, 20, .inl r) else
  if a.1 = 14 then .inr (5, [.ref (z_ad E (z_nx a))]) else
  if a.1 = 15 then .inl (z_cy E 0, 20, .inl r) else
  if a.1 = 16 then .inl (z_cy E 0, 7, .inl r) else
  if a.1 = 17 then .inl (z_cy E 0, 7, .inl r) else
  if a.1 = 18 then .inl (z_cy E 0, 7, .inl r) else
  if a.1 = 19 then .inl (z_cy E 0, 7, .inl r) else
  if a.1 = 20 then .inr (2, [.int (r 0), .int (r 1), .int (r 2), .int (r 3), .int (r 4), .int (r 5), .int (r 6), .int (r 7), .int (r 8), .int (r 9), .ref (z_ad E (21, a.2.1, a.2.2)), .ref (z_ad E (22, a.2.1, a.2.2))]) else
  if a.1 = 21 then .inl (z_cy E 0, 30, .inl r) else
  if a.1 = 22 then .inr (5, [.ref (z_ad E (z_nx a))]) else
  if a.1 = 23 then .inl (z_cy E 0, 20, .inl r) else
  if a.1 = 30 then .inr (8, [.ref (z_ad E (31, 0, 0)), .ref (z_ad E (0, 0, 0)), .ref (z_ad E (36, 0, 0)), .ref (z_ad E (37, 0, 0)), .ref (z_ad E (40, 0, 0))]) else
  if a.1 = 31 then .inr (6, [.ref (z_ad E (32, 0, 0)), .ref (z_ad E (33, 0, 0)), .ref (z_ad E (34, 0, 0)), .ref (z_ad E (35, 0, 0)), .int (r 4), .int (r 5), .int (r 6), .int (r 7), .int (r 8), .int (r 9)]) else
  if a.1 = 32 then .inl (z_cy E 1, 400, .inl r) else
  if a.1 = 33 then .inl (z_cy E 0, 7, .inl r) else
  if a.1 = 34 then .inl (z_cy E 0, 7, .inl r) else
  if a.1 = 35 then .inl (z_cy E 2, 7, .inl r) else
  if a.1 = 36 then .inl (z_cy E 6, 3, .inr (.inr (.inr (.inr (z_bx E))))) else
  if a.1 = 37 then .inl (z_cy E 2, 3, .inl r) else
  if a.1 = 40 then .inr (0, [.ref (z_ad E (41, 0, 0)), .ref (z_ad E (42, 0, 0)), .ref (z_ad E (43, 0, 0)), .ref (z_ad E (44, 0, 0)), .ref (z_ad E (45, 0, 0)), .ref (z_ad E (46, 0, 0)), .ref (z_ad E (47, 0, 0)), .int (r 7), .int (r 8), .int (r 9)]) else
  if a.1 = 41 then .inl (z_cy E 0, 9, .inl r) else
  if a.1 = 42 then .inl (z_cy E 0, 9, .inl r) else
  if a.1 = 43 then .inl (z_cy E 0, 9, .inl r) else
  if a.1 = 44 then .inl (z_cy E 0, 9, .inl r) else
  if a.1 = 45 then .inl (z_cy E 0, 9, .inl r) else
  if a.1 = 46 then .inl (z_cy E 0, 9, .inl r) else
  if a.1 = 47 then .inl (z_cy E 0, 512, .inl r) else
  if a.1 = 100 then .inr (9, [.ref (z_ad E (101, 0, 0)), .ref (z_ad E (102, 0, 0)), .ref (z_ad E (103, 0, 0)), .ref (z_ad E (104, 0, 0)), .ref (z_ad E (105, 0, 0)), .int (r 5), .int (r 6), .int (r 7), .int (r 8), .ref (z_ad E (106, 0, 0)), .ref (z_ad E (107, 0, 0)), .ref (z_ad E (108, 0, 0)), .int (r 12), .int (r 13), .int (r 14), .int (r 15), .int (r 16), .long (h 17), .ref (z_ad E (109, 0, 0)), .ref (z_ad E (110, 0, 0)), .ref (z_ad E (111, 0, 0)), .ref (z_ad E (112, 0, 0)), .ref (z_ad E (113, 0, 0)), .ref (z_ad E (114, 0, 0)), .ref (z_ad E (115, 0, 0)), .ref (z_ad E (116, 0, 0)), .int (r 26)]) else
  if a.1 = 101 then .inl (z_cy E 1, 420, .inl r) else
  if a.1 = 102 then .inl (z_cy E 1, 400, .inl r) else
  if a.1 = 103 then .inl (z_cy E 0, 5000, .inl r) else
  if a.1 = 104 then .inl (z_cy E 0, 15000, .inl r) else
  if a.1 = 105 then .inl (z_cy E 2, 3, .inl r) else
  if a.1 = 106 then .inl (z_cy E 0, 2, .inl r) else
  if a.1 = 107 then .inl (z_cy E 0, 2, .inl r) else
  if a.1 = 108 then .inl (z_cy E 3, 14, .inr (.inl h)) else
  if a.1 = 109 then .inl (z_cy E 0, 64, .inl r) else
  if a.1 = 110 then .inl (z_cy E 0, 9, .inl r) else
  if a.1 = 111 then .inl (z_cy E 0, 9, .inl r) else
  if a.1 = 112 then .inl (z_cy E 0, 9, .inl r) else
  if a.1 = 113 then .inl (z_cy E 0, 9, .inl r) else
  if a.1 = 114 then .inl (z_cy E 0, 9, .inl r) else
  if a.1 = 115 then .inl (z_cy E 0, 10, .inl r) else
  if a.1 = 116 then .inl (z_cy E 0, 11, .inl r) else
  .inr (99, [])
theorem z_c0 (E : zE) (r : Nat → Int32) (h : Nat → Int64) (w i : Nat) : z_cell E r h (0, w, i) = .inr (7, [.ref (z_ad E (1, w, 0)), .ref (z_ad E (2, w, 0)), .ref (z_ad E (4, w, 0)), .int (r 3), .int (r 4)]) := rfl
theorem z_c1 (E : zE) (r : Nat → Int32) (h : Nat → Int64) (w i : Nat) : z_cell E r h (1, w, i) = .inl (z_cy E 4, 7, .inr (.inr (.inr (.inr (fun j => some (z_ad E (10, w, j))))))) := rfl
theorem z_c2 (E : zE) (r : Nat → Int32) (h : Nat → Int64) (w i : Nat) : z_cell E r h (2, w, i) = .inr (3, [.ref (z_ad E (3, w, 0)), .ref (z_ad E (20, w, 40))]) := rfl
theorem z_c3 (E : zE) (r : Nat → Int32) (h : Nat → Int64) (w i : Nat) : z_cell E r h (3, w, i) = .inl (z_cy E 5, 40, .inr (.inr (.inr (.inr (fun j => some (z_ad E (20, w, j))))))) := rfl
theorem z_c4 (E : zE) (r : Nat → Int32) (h : Nat → Int64) (w i : Nat) : z_cell E r h (4, w, i) = .inr (4, [.ref (z_ad E (5, w, 0)), .ref (z_ad E (6, w, 0)), .ref (z_ad E (7, w, 0)), .ref (z_ad E (8, w, 0)), .int (r 4)]) := rfl
theorem z_c5 (E : zE) (r : Nat → Int32) (h : Nat → Int64) (w i : Nat) : z_cell E r h (5, w, i) = .inl (z_cy E 0, 40, .inl r) := rfl
theorem z_c6 (E : zE) (r : Nat → Int32) (h : Nat → Int64) (w i : Nat) : z_cell E r h (6, w, i) = .inl (z_cy E 0, 40, .inl r) := rfl
theorem z_c7 (E : zE) (r : Nat → Int32) (h : Nat → Int64) (w i : Nat) : z_cell E r h (7, w, i) = .inl (z_cy E 0, 40, .inl r) := rfl
theorem z_c8 (E : zE) (r : Nat → Int32) (h : Nat → Int64) (w i : Nat) : z_cell E r h (8, w, i) = .inl (z_cy E 0, 40, .inl r) := rfl
theorem z_c10 (E : zE) (r : Nat → Int32) (h : Nat → Int64) (w i : Nat) : z_cell E r h (10, w, i) = .inr (1, [.int (r 0), .int (r 1), .int (r 2), .int (r 3), .int (r 4), .int (r 5), .int (r 6), .int (r 7), .int (r 8), .int (r 9), .int (r 10), .ref (z_ad E (11, w, i)), .ref (z_ad E (12, w, i)), .ref (z_ad E (14, w, i)), .ref (z_ad E (16, w, i)), .ref (z_ad E (17, w, i)), .ref (z_ad E (18, w, i)), .ref (z_ad E (19, w, i))]) := rfl
theorem z_c11 (E : zE) (r : Nat → Int32) (h : Nat → Int64) (w i : Nat) : z_cell E r h (11, w, i) = .inl (z_cy E 0, 240, .inl r) := rfl
theorem z_c12 (E : zE) (r : Nat → Int32) (h : Nat → Int64) (w i : Nat) : z_cell E r h (12, w, i) = .inr (5, [.ref (z_ad E (13, w, i))]) := rfl
theorem z_c13 (E : zE) (r : Nat → Int32) (h : Nat → Int64) (w i : Nat) : z_cell E r h (13, w, i) = .inl (z_cy E 0, 20, .inl r) := rfl
theorem z_c14 (E : zE) (r : Nat → Int32) (h : Nat → Int64) (w i : Nat) : z_cell E r h (14, w, i) = .inr (5, [.ref (z_ad E (15, w, i))]) := rfl
theorem z_c15 (E : zE) (r : Nat → Int32) (h : Nat → Int64) (w i : Nat) : z_cell E r h (15, w, i) = .inl (z_cy E 0, 20, .inl r) := rfl
theorem z_c16 (E : zE) (r : Nat → Int32) (h : Nat → Int64) (w i : Nat) : z_cell E r h (16, w, i) = .inl (z_cy E 0, 7, .inl r) := rfl
theorem z_c17 (E : zE) (r : Nat → Int32) (h : Nat → Int64) (w i : Nat) : z_cell E r h (17, w, i) = .inl (z_cy E 0, 7, .inl r) := rfl
theorem z_c18 (E : zE) (r : Nat → Int32) (h : Nat → Int64) (w i : Nat) : z_cell E r h (18, w, i) = .inl (z_cy E 0, 7, .inl r) := rfl
theorem z_c19 (E : zE) (r : Nat → Int32) (h : Nat → Int64) (w i : Nat) : z_cell E r h (19, w, i) = .inl (z_cy E 0, 7, .inl r) := rfl
theorem z_c20 (E : zE) (r : Nat → Int32) (h : Nat → Int64) (w i : Nat) : z_cell E r h (20, w, i) = .inr (2, [.int (r 0), .int (r 1), .int (r 2), .int (r 3), .int (r 4), .int (r 5), .int (r 6), .int (r 7), .int (r 8), .int (r 9), .ref (z_ad E (21, w, i)), .ref (z_ad E (22, w, i))]) := rfl
theorem z_c21 (E : zE) (r : Nat → Int32) (h : Nat → Int64) (w i : Nat) : z_cell E r h (21, w, i) = .inl (z_cy E 0, 30, .inl r) := rfl
theorem z_c22 (E : zE) (r : Nat → Int32) (h : Nat → Int64) (w i : Nat) : z_cell E r h (22, w, i) = .inr (5, [.ref (z_ad E (23, w, i))]) := rfl
theorem z_c23 (E : zE) (r : Nat → Int32) (h : Nat → Int64) (w i : Nat) : z_cell E r h (23, w, i) = .inl (z_cy E 0, 20, .inl r) := rfl
theorem z_c30 (E : zE) (r : Nat → Int32) (h : Nat → Int64) (w i : Nat) : z_cell E r h (30, w, i) = .inr (8, [.ref (z_ad E (31, 0, 0)), .ref (z_ad E (0, 0, 0)), .ref (z_ad E (36, 0, 0)), .ref (z_ad E (37, 0, 0)), .ref (z_ad E (40, 0, 0))]) := rfl
theorem z_c31 (E : zE) (r : Nat → Int32) (h : Nat → Int64) (w i : Nat) : z_cell E r h (31, w, i) = .inr (6, [.ref (z_ad E (32, 0, 0)), .ref (z_ad E (33, 0, 0)), .ref (z_ad E (34, 0, 0)), .ref (z_ad E (35, 0, 0)), .int (r 4), .int (r 5), .int (r 6), .int (r 7), .int (r 8), .int (r 9)]) := rfl
theorem z_c32 (E : zE) (r : Nat → Int32) (h : Nat → Int64) (w i : Nat) : z_cell E r h (32, w, i) = .inl (z_cy E 1, 400, .inl r) := rfl
theorem z_c33 (E : zE) (r : Nat → Int32) (h : Nat → Int64) (w i : Nat) : z_cell E r h (33, w, i) = .inl (z_cy E 0, 7, .inl r) := rfl
theorem z_c34 (E : zE) (r : Nat → Int32) (h : Nat → Int64) (w i : Nat) : z_cell E r h (34, w, i) = .inl (z_cy E 0, 7, .inl r) := rfl
theorem z_c35 (E : zE) (r : Nat → Int32) (h : Nat → Int64) (w i : Nat) : z_cell E r h (35, w, i) = .inl (z_cy E 2, 7, .inl r) := rfl
theorem z_c36 (E : zE) (r : Nat → Int32) (h : Nat → Int64) (w i : Nat) : z_cell E r h (36, w, i) = .inl (z_cy E 6, 3, .inr (.inr (.inr (.inr (z_bx E))))) := rfl
theorem z_c37 (E : zE) (r : Nat → Int32) (h : Nat → Int64) (w i : Nat) : z_cell E r h (37, w, i) = .inl (z_cy E 2, 3, .inl r) := rfl
theorem z_c40 (E : zE) (r : Nat → Int32) (h : Nat → Int64) (w i : Nat) : z_cell E r h (40, w, i) = .inr (0, [.ref (z_ad E (41, 0, 0)), .ref (z_ad E (42, 0, 0)), .ref (z_ad E (43, 0, 0)), .ref (z_ad E (44, 0, 0)), .ref (z_ad E (45, 0, 0)), .ref (z_ad E (46, 0, 0)), .ref (z_ad E (47, 0, 0)), .int (r 7), .int (r 8), .int (r 9)]) := rfl
theorem z_c41 (E : zE) (r : Nat → Int32) (h : Nat → Int64) (w i : Nat) : z_cell E r h (41, w, i) = .inl (z_cy E 0, 9, .inl r) := rfl
theorem z_c42 (E : zE) (r : Nat → Int32) (h : Nat → Int64) (w i : Nat) : z_cell E r h (42, w, i) = .inl (z_cy E 0, 9, .inl r) := rfl
theorem z_c43 (E : zE) (r : Nat → Int32) (h : Nat → Int64) (w i : Nat) : z_cell E r h (43, w, i) = .inl (z_cy E 0, 9, .inl r) := rfl
theorem z_c44 (E : zE) (r : Nat → Int32) (h : Nat → Int64) (w i : Nat) : z_cell E r h (44, w, i) = .inl (z_cy E 0, 9, .inl r) := rfl
theorem z_c45 (E : zE) (r : Nat → Int32) (h : Nat → Int64) (w i : Nat) : z_cell E r h (45, w, i) = .inl (z_cy E 0, 9, .inl r) := rfl
theorem z_c46 (E : zE) (r : Nat → Int32) (h : Nat → Int64) (w i : Nat) : z_cell E r h (46, w, i) = .inl (z_cy E 0, 9, .inl r) := rfl
theorem z_c47 (E : zE) (r : Nat → Int32) (h : Nat → Int64) (w i : Nat) : z_cell E r h (47, w, i) = .inl (z_cy E 0, 512, .inl r) := rfl
theorem z_c100 (E : zE) (r : Nat → Int32) (h : Nat → Int64) (w i : Nat) : z_cell E r h (100, w, i) = .inr (9, [.ref (z_ad E (101, 0, 0)), .ref (z_ad E (102, 0, 0)), .ref (z_ad E (103, 0, 0)), .ref (z_ad E (104, 0, 0)), .ref (z_ad E (105, 0, 0)), .int (r 5), .int (r 6), .int (r 7), .int (r 8), .ref (z_ad E (106, 0, 0)), .ref (z_ad E (107, 0, 0)), .ref (z_ad E (108, 0, 0)), .int (r 12), .int (r 13), .int (r 14), .int (r 15), .int (r 16), .long (h 17), .ref (z_ad E (109, 0, 0)), .ref (z_ad E (110, 0, 0)), .ref (z_ad E (111, 0, 0)), .ref (z_ad E (112, 0, 0)), .ref (z_ad E (113, 0, 0)), .ref (z_ad E (114, 0, 0)), .ref (z_ad E (115, 0, 0)), .ref (z_ad E (116, 0, 0)), .int (r 26)]) := rfl
theorem z_c101 (E : zE) (r : Nat → Int32) (h : Nat → Int64) (w i : Nat) : z_cell E r h (101, w, i) = .inl (z_cy E 1, 420, .inl r) := rfl
theorem z_c102 (E : zE) (r : Nat → Int32) (h : Nat → Int64) (w i : Nat) : z_cell E r h (102, w, i) = .inl (z_cy E 1, 400, .inl r) := rfl
theorem z_c103 (E : zE) (r : Nat → Int32) (h : Nat → Int64) (w i : Nat) : z_cell E r h (103, w, i) = .inl (z_cy E 0, 5000, .inl r) := rfl
theorem z_c104 (E : zE) (r : Nat → Int32) (h : Nat → Int64) (w i : Nat) : z_cell E r h (104, w, i) = .inl (z_cy E 0, 15000, .inl r) := rfl
theorem z_c105 (E : zE) (r : Nat → Int32) (h : Nat → Int64) (w i : Nat) : z_cell E r h (105, w, i) = .inl (z_cy E 2, 3, .inl r) := rfl
theorem z_c106 (E : zE) (r : Nat → Int32) (h : Nat → Int64) (w i : Nat) : z_cell E r h (106, w, i) = .inl (z_cy E 0, 2, .inl r) := rfl
theorem z_c107 (E : zE) (r : Nat → Int32) (h : Nat → Int64) (w i : Nat) : z_cell E r h (107, w, i) = .inl (z_cy E 0, 2, .inl r) := rfl
theorem z_c108 (E : zE) (r : Nat → Int32) (h : Nat → Int64) (w i : Nat) : z_cell E r h (108, w, i) = .inl (z_cy E 3, 14, .inr (.inl h)) := rfl
theorem z_c109 (E : zE) (r : Nat → Int32) (h : Nat → Int64) (w i : Nat) : z_cell E r h (109, w, i) = .inl (z_cy E 0, 64, .inl r) := rfl
theorem z_c110 (E : zE) (r : Nat → Int32) (h : Nat → Int64) (w i : Nat) : z_cell E r h (110, w, i) = .inl (z_cy E 0, 9, .inl r) := rfl
theorem z_c111 (E : zE) (r : Nat → Int32) (h : Nat → Int64) (w i : Nat) : z_cell E r h (111, w, i) = .inl (z_cy E 0, 9, .inl r) := rfl
theorem z_c112 (E : zE) (r : Nat → Int32) (h : Nat → Int64) (w i : Nat) : z_cell E r h (112, w, i) = .inl (z_cy E 0, 9, .inl r) := rfl
theorem z_c113 (E : zE) (r : Nat → Int32) (h : Nat → Int64) (w i : Nat) : z_cell E r h (113, w, i) = .inl (z_cy E 0, 9, .inl r) := rfl
theorem z_c114 (E : zE) (r : Nat → Int32) (h : Nat → Int64) (w i : Nat) : z_cell E r h (114, w, i) = .inl (z_cy E 0, 9, .inl r) := rfl
theorem z_c115 (E : zE) (r : Nat → Int32) (h : Nat → Int64) (w i : Nat) : z_cell E r h (115, w, i) = .inl (z_cy E 0, 10, .inl r) := rfl
theorem z_c116 (E : zE) (r : Nat → Int32) (h : Nat → Int64) (w i : Nat) : z_cell E r h (116, w, i) = .inl (z_cy E 0, 11, .inl r) := rfl
def z_isS (a : zJ) : Prop := a.1 = 12 ∨ a.1 = 14 ∨ a.1 = 22
theorem z_cS (E : zE) (r : Nat → Int32) (h : Nat → Int64) {a : zJ} (ha : z_isS a) : z_cell E r h a = .inr (5, [.ref (z_ad E (z_nx a))]) := by
  obtain ⟨p, w, i⟩ := a
  rcases ha with h1 | h1 | h1 <;> (cases h1; rfl)
theorem z_cSn (E : zE) (r : Nat → Int32) (h : Nat → Int64) {a : zJ} (ha : z_isS a) : z_cell E r h (z_nx a) = .inl (z_cy E 0, 20, .inl r) := by
  obtain ⟨p, w, i⟩ := a
  rcases ha with h1 | h1 | h1 <;> (cases h1; rfl)
def z_ws (E : zE) (σ : zS) : va_W := (z_ids E).map (fun a => (z_ad E a, z_cell E (σ.1 a) (σ.2 a) a))
theorem z_at {E : zE} {a : zJ} (σ : zS) (ha : a ∈ z_ids E) : ∃ k : Nat, (z_ids E)[k]? = some a ∧ (z_ws E σ)[k]? = some (z_ad E a, z_cell E (σ.1 a) (σ.2 a) a) := by
  obtain ⟨k, hk⟩ := List.getElem?_of_mem ha
  exact ⟨k, hk, by simp only [z_ws, List.getElem?_map, hk, Option.map_some]⟩
theorem z_setG {E : zE} {σ τ : zS} {A : Nat → Prop} (hD : va_D A (z_ws E σ)) {k : Nat} {a : zJ} (hk : (z_ids E)[k]? = some a) (hτ : ∀ b, b ≠ a → τ.1 b = σ.1 b ∧ τ.2 b = σ.2 b) {x : va_E} (hx : z_cell E (τ.1 a) (τ.2 a) a = x) : (z_ws E σ).set k (z_ad E a, x) = z_ws E τ := by
  apply List.ext_getElem?
  intro j
  by_cases hj : k = j
  · subst hj
    have hl : k < (z_ws E σ).length := by
      rw [z_ws, List.length_map]
      exact (List.getElem?_eq_some_iff.mp hk).1
    rw [List.getElem?_set_self hl, ← hx]
    simp only [z_ws, List.getElem?_map, hk, Option.map_some]
  · rw [List.getElem?_set_ne hj]
    simp only [z_ws, List.getElem?_map]
    cases hb : (z_ids E)[j]? with
    | none => rfl
    | some b =>
      have hne : b ≠ a := by
        intro e
        subst e
        refine hj (hD.1 k j (z_ad E b, z_cell E (σ.1 b) (σ.2 b) b) (z_ad E b, z_cell E (σ.1 b) (σ.2 b) b) ?_ ?_ rfl)
        · simp only [z_ws, List.getElem?_map, hk, Option.map_some]
        · simp only [z_ws, List.getElem?_map, hb, Option.map_some]
      simp only [Option.map_some, (hτ b hne).1, (hτ b hne).2]
theorem z_upR_o {σ : zS} {a : zJ} {r : Nat → Int32} : ∀ b, b ≠ a → (z_upR σ a r).1 b = σ.1 b ∧ (z_upR σ a r).2 b = σ.2 b := fun b hb => ⟨by simp only [z_upR, if_neg hb], rfl⟩
theorem z_upH_o {σ : zS} {a : zJ} {r : Nat → Int64} : ∀ b, b ≠ a → (z_upH σ a r).1 b = σ.1 b ∧ (z_upH σ a r).2 b = σ.2 b := fun b hb => ⟨rfl, by simp only [z_upH, if_neg hb]⟩
theorem z_upR_s {σ : zS} {a : zJ} {r : Nat → Int32} : (z_upR σ a r).1 a = r := by simp only [z_upR, if_true]
theorem z_upH_s {σ : zS} {a : zJ} {r : Nat → Int64} : (z_upH σ a r).2 a = r := by simp only [z_upH, if_true]
theorem z_ws_fst {E : zE} {σ : zS} {k : Nat} {q : Nat × va_E} (h : (z_ws E σ)[k]? = some q) : ∃ a, (z_ids E)[k]? = some a ∧ q.1 = z_ad E a := by
  simp only [z_ws, List.getElem?_map] at h
  cases hb : (z_ids E)[k]? with
  | none => rw [hb] at h; cases h
  | some b => rw [hb] at h; cases h; exact ⟨b, rfl, rfl⟩
/-- addresses apart: the same for every state -/
theorem z_Dall {E : zE} {σ : zS} {A : Nat → Prop} (hD : va_D A (z_ws E σ)) (τ : zS) : va_D A (z_ws E τ) := by
  have tr : ∀ {k : Nat} {q : Nat × va_E}, (z_ws E τ)[k]? = some q → ∃ q' : Nat × va_E, (z_ws E σ)[k]? = some q' ∧ q'.1 = q.1 := by
    intro k q h
    obtain ⟨a, h1, h2⟩ := z_ws_fst h
    exact ⟨(z_ad E a, z_cell E (σ.1 a) (σ.2 a) a), by simp only [z_ws, List.getElem?_map, h1, Option.map_some], h2.symm⟩
  refine ⟨fun i j p q hi hj hpq => ?_, fun k q hk => ?_⟩
  · obtain ⟨p', h1, e1⟩ := tr hi
    obtain ⟨q', h2, e2⟩ := tr hj
    exact hD.1 i j p' q' h1 h2 (by rw [e1, e2, hpq])
  · obtain ⟨q', h1, e1⟩ := tr hk
    rw [← e1]
    exact hD.2 k q' h1
/-- what a method may write: the named cells, and what is new -/
def z_A (E : zE) (sz : Nat) : Nat → Prop := fun q => (∃ a ∈ z_ids E, q = z_ad E a) ∨ sz ≤ q
theorem z_D_A {E : zE} {σ : zS} {A : Nat → Prop} (hD : va_D A (z_ws E σ)) (sz : Nat) : va_D (z_A E sz) (z_ws E σ) := ⟨hD.1, fun k q hk => by
  obtain ⟨a, h1, h2⟩ := z_ws_fst hk
  exact Or.inl ⟨a, List.mem_of_getElem? h1, h2⟩⟩
/-- what the tables say beside the words -/
def z_K (E : zE) (U : State) : Prop := va_K E.1 z_cl (z_ty E) U ∧ ∀ w ∈ z_nl, va_Nw w U
/-- all that stays the same along a method's walk -/
def z_C (E : zE) (own : String) (cc : ByteArray) (nL : Nat) (A : Nat → Prop) (p : Program) (s : State) (m : MethodId) (args : Array Value) (meth : Method) (c : Code) : Prop :=
  p.tables.exec = Jvm.exec ∧ c.code = cc ∧ c.maxLocals = nL ∧ s.vm.findClass own = some m.cls ∧ (∀ w ∈ z_wl, w.before args s = true) ∧ z_K E s ∧ (∀ σ, va_D A (z_ws E σ)) ∧ (∀ q : Nat, s.heap.size ≤ q → A q) ∧ meth.locks = false
/-- the heap holds the state -/
def z_H (E : zE) (A : Nat → Prop) (s : State) (σ : zS) (H : Heap) (locs : List Loc) : Prop := va_P E.1 z_cl (z_ws E σ) H ∧ va_S A s.heap H locs
section z_rows
variable {p : Program} {l : Launch} {e : Env} {R : Room} {s : State} {m : MethodId} {args : Array Value} {below : List Frame} {meth : Method} {c : Code} {H : Heap} {locs : List Loc} {cells slots : Nat} {Q : State → Prop}
variable {cc : ByteArray} {pc nL : Nat} {ls : Array Slot} {rest : List Value} {E : zE} {σ : zS} {A : Nat → Prop} {own : String}
theorem z_get (C : z_C E own cc nL A p s m args meth c) (hs : z_H E A s σ H locs) {a : zJ} (ha : a ∈ z_ids E) {ci N index : Nat} {Cn : String} {T : u_T} {fs : List Value} (hce : z_cell E (σ.1 a) (σ.2 a) a = .inr (ci, fs)) (hc : z_cl[ci]? = some (Cn, T, N)) (hin : ∀ w ∈ u_ws Cn T N, w ∈ z_wl) (k : Nat) (hk : k < N) (hl : Cond.fieldLink own index (T k).1 (T k).2.1 (T k).2.2.1 ∈ z_wl) {v : Value} (hv : fs[k]? = some v) (hdg : decode cc pc = .ok (.getfield index, 3))
    (kk : W p l e R s m args below meth c H locs cells slots Q (F0 m (pc + 3) ls (v :: rest))) : W p l e R s m args below meth c H locs cells slots Q (F0 m pc ls (.ref (z_ad E a) :: rest)) := by
  obtain ⟨hx, hb, hml, hown, hts, hK, hD, hA, -⟩ := C
  obtain ⟨q0, -, he⟩ := z_at σ ha
  rw [hce] at he
  exact va_get hx hb hts hin hown hK.1 hs.1 q0 he hc k hk (hts _ hl) (fun _ h => h) hv hdg kk
theorem z_put (C : z_C E own cc nL A p s m args meth c) (hs : z_H E A s σ H locs) {a : zJ} (ha : a ∈ z_ids E) {ci N index : Nat} {Cn : String} {T : u_T} {fs : List Value} (hce : z_cell E (σ.1 a) (σ.2 a) a = .inr (ci, fs)) (hc : z_cl[ci]? = some (Cn, T, N)) (hin : ∀ w ∈ u_ws Cn T N, w ∈ z_wl) (ty0 : Nat → FieldType) (hty : ∀ k, k < N → parseFieldDescriptor (T k).2.2.1 = some (ty0 k)) (hnm : ∀ a, a < N → ∀ b, b < N → a ≠ b → (T a).2.1 ≠ (T b).2.1) (k : Nat) (hk : k < N) (hl : Cond.fieldLink own index (T k).1 (T k).2.1 (T k).2.2.1 ∈ z_wl) (hfin : (T k).2.2.2 = false) {v : Value} {ty : FieldType} (hd : ty0 k = ty) (hn : narrow ty v = v) (hfit : fits ty v = true) (hlen : k < fs.length) {τ : zS} (hτ : ∀ b, b ≠ a → τ.1 b = σ.1 b ∧ τ.2 b = σ.2 b) (hx : z_cell E (τ.1 a) (τ.2 a) a = .inr (ci, fs.set k v)) (hdg : decode cc pc = .ok (.putfield index, 3))
    (kk : ∀ (H : Heap) (locs : List Loc), z_H E A s τ H locs → W p l e R s m args below meth c H locs cells slots Q (F0 m (pc + 3) ls rest)) : W p l e R s m args below meth c H locs cells slots Q (F0 m pc ls (v :: .ref (z_ad E a) :: rest)) := by
  obtain ⟨hex, hb, hml, hown, hts, hK, hD, hA, -⟩ := C
  obtain ⟨q0, hq, he⟩ := z_at σ ha
  rw [hce] at he
  refine va_put hex hb hts hin ty0 hty hnm hown hK.1 hs.1 (hD σ) hs.2 q0 he hc k hk (hts _ hl) (fun _ h => h) hfin (by rw [hty k hk, hd]) hn hfit hlen hdg (fun H1 locs1 h1 _ h3 => kk H1 locs1 ⟨?_, h3⟩)
  rw [z_setG (hD σ) hq hτ hx] at h1
  exact h1
theorem z_ald (C : z_C E own cc nL A p s m args meth c) (hs : z_H E A s σ H locs) {a : zJ} (ha : a ∈ z_ids E) {n : Nat} (hce : z_cell E (σ.1 a) (σ.2 a) a = .inl (z_cy E 0, n, .inl (σ.1 a))) {i : Int32} (g : z_in i n = true) {k : Nat} (hk : i.toNatClampNeg = k) (hdg : decode cc pc = .ok (.iaload, 1))
    (kk : W p l e R s m args below meth c H locs cells slots Q (F0 m (pc + 1) ls (.int (σ.1 a k) :: rest))) : W p l e R s m args below meth c H locs cells slots Q (F0 m pc ls (.int i :: .ref (z_ad E a) :: rest)) := by
  subst hk
  obtain ⟨hex, hb, hml, hown, hts, hK, hD, hA, -⟩ := C
  obtain ⟨q0, -, he⟩ := z_at σ ha
  rw [hce] at he
  exact va_iald hex hb hK.1 hs.1 q0 0 he rfl (z_in_p g) hdg kk
theorem z_bald (C : z_C E own cc nL A p s m args meth c) (hs : z_H E A s σ H locs) {a : zJ} (ha : a ∈ z_ids E) {n : Nat} (hce : z_cell E (σ.1 a) (σ.2 a) a = .inl (z_cy E 1, n, .inl (σ.1 a))) {i : Int32} (g : z_in i n = true) {k : Nat} (hk : i.toNatClampNeg = k) (hdg : decode cc pc = .ok (.baload, 1))
    (kk : W p l e R s m args below meth c H locs cells slots Q (F0 m (pc + 1) ls (.int (σ.1 a k) :: rest))) : W p l e R s m args below meth c H locs cells slots Q (F0 m pc ls (.int i :: .ref (z_ad E a) :: rest)) := by
  subst hk
  obtain ⟨hex, hb, hml, hown, hts, hK, hD, hA, -⟩ := C
  obtain ⟨q0, -, he⟩ := z_at σ ha
  rw [hce] at he
  exact va_bald hex hb hK.1 hs.1 q0 1 he rfl (z_in_p g) hdg kk
theorem z_zald (C : z_C E own cc nL A p s m args meth c) (hs : z_H E A s σ H locs) {a : zJ} (ha : a ∈ z_ids E) {n : Nat} (hce : z_cell E (σ.1 a) (σ.2 a) a = .inl (z_cy E 2, n, .inl (σ.1 a))) {i : Int32} (g : z_in i n = true) {k : Nat} (hk : i.toNatClampNeg = k) (hdg : decode cc pc = .ok (.baload, 1))
    (kk : W p l e R s m args below meth c H locs cells slots Q (F0 m (pc + 1) ls (.int (σ.1 a k) :: rest))) : W p l e R s m args below meth c H locs cells slots Q (F0 m pc ls (.int i :: .ref (z_ad E a) :: rest)) := by
  subst hk
  obtain ⟨hex, hb, hml, hown, hts, hK, hD, hA, -⟩ := C
  obtain ⟨q0, -, he⟩ := z_at σ ha
  rw [hce] at he
  exact va_zald hex hb hK.1 hs.1 q0 2 he rfl (z_in_p g) hdg kk
theorem z_lald (C : z_C E own cc nL A p s m args meth c) (hs : z_H E A s σ H locs) {a : zJ} (ha : a ∈ z_ids E) {n : Nat} (hce : z_cell E (σ.1 a) (σ.2 a) a = .inl (z_cy E 3, n, .inr (.inl (σ.2 a)))) {i : Int32} (g : z_in i n = true) {k : Nat} (hk : i.toNatClampNeg = k) (hdg : decode cc pc = .ok (.laload, 1))
    (kk : W p l e R s m args below meth c H locs cells slots Q (F0 m (pc + 1) ls (.long (σ.2 a k) :: rest))) : W p l e R s m args below meth c H locs cells slots Q (F0 m pc ls (.int i :: .ref (z_ad E a) :: rest)) := by
  subst hk
  obtain ⟨hex, hb, hml, hown, hts, hK, hD, hA, -⟩ := C
  obtain ⟨q0, -, he⟩ := z_at σ ha
  rw [hce] at he
  exact va_lald hex hb hK.1 hs.1 q0 3 he rfl (z_in_p g) hdg kk
theorem z_aald (C : z_C E own cc nL A p s m args meth c) (hs : z_H E A s σ H locs) {a : zJ} (ha : a ∈ z_ids E) {n t0 : Nat} {Cn : String} {cA : ClassId} {f : Nat → Option Nat} (hce : z_cell E (σ.1 a) (σ.2 a) a = .inl (cA, n, .inr (.inr (.inr (.inr f))))) (ht : (z_ty E)[t0]? = some (cA, .object Cn)) {i : Int32} (g : z_in i n = true) {v : Value} (hv : va_rf (f i.toNatClampNeg) = v) (hdg : decode cc pc = .ok (.aaload, 1))
    (kk : W p l e R s m args below meth c H locs cells slots Q (F0 m (pc + 1) ls (v :: rest))) : W p l e R s m args below meth c H locs cells slots Q (F0 m pc ls (.int i :: .ref (z_ad E a) :: rest)) := by
  obtain ⟨hex, hb, hml, hown, hts, hK, hD, hA, -⟩ := C
  obtain ⟨q0, -, he⟩ := z_at σ ha
  rw [hce] at he
  subst hv
  exact va_aldq hex hb hK.1 hs.1 q0 t0 he ht (z_in_p g) hdg kk
theorem z_alen (C : z_C E own cc nL A p s m args meth c) (hs : z_H E A s σ H locs) {a : zJ} (ha : a ∈ z_ids E) {n : Nat} {r : Nat → Int32} (hce : z_cell E (σ.1 a) (σ.2 a) a = .inl (z_cy E 0, n, .inl r)) {v : Int32} (hv : Int32.ofNat n = v) (hdg : decode cc pc = .ok (.arraylength, 1))
    (kk : W p l e R s m args below meth c H locs cells slots Q (F0 m (pc + 1) ls (.int v :: rest))) : W p l e R s m args below meth c H locs cells slots Q (F0 m pc ls (.ref (z_ad E a) :: rest)) := by
  obtain ⟨hex, hb, hml, hown, hts, hK, hD, hA, -⟩ := C
  obtain ⟨q0, -, he⟩ := z_at σ ha
  rw [hce] at he
  exact va_alen hex hb hK.1 hs.1 q0 0 he rfl hv hdg kk
theorem z_ast (C : z_C E own cc nL A p s m args meth c) (hs : z_H E A s σ H locs) {a : zJ} (ha : a ∈ z_ids E) {n : Nat} (hce : ∀ r h, z_cell E r h a = .inl (z_cy E 0, n, .inl r)) {i x : Int32} (g : z_in i n = true) {k : Nat} (hk : i.toNatClampNeg = k) (hdg : decode cc pc = .ok (.iastore, 1))
    (kk : ∀ (H : Heap) (locs : List Loc), z_H E A s (z_up σ a k x) H locs → W p l e R s m args below meth c H locs cells slots Q (F0 m (pc + 1) ls rest)) : W p l e R s m args below meth c H locs cells slots Q (F0 m pc ls (.int x :: .int i :: .ref (z_ad E a) :: rest)) := by
  subst hk
  obtain ⟨hex, hb, hml, hown, hts, hK, hD, hA, -⟩ := C
  obtain ⟨q0, hq, he⟩ := z_at σ ha
  rw [hce] at he
  refine va_iast hex hb hK.1 hs.1 (hD σ) hs.2 q0 0 he rfl (z_in_p g) hdg (fun H1 locs1 h1 _ h3 => kk H1 locs1 ⟨?_, h3⟩)
  rw [z_setG (hD σ) hq (τ := z_up σ a i.toNatClampNeg x) z_upR_o (by rw [hce, z_up, z_upR_s])] at h1
  exact h1
theorem z_bast (C : z_C E own cc nL A p s m args meth c) (hs : z_H E A s σ H locs) {a : zJ} (ha : a ∈ z_ids E) {n : Nat} (hce : ∀ r h, z_cell E r h a = .inl (z_cy E 1, n, .inl r)) {i x : Int32} (g : z_in i n = true) {k : Nat} (hk : i.toNatClampNeg = k) (hdg : decode cc pc = .ok (.bastore, 1))
    (kk : ∀ (H : Heap) (locs : List Loc), z_H E A s (z_up σ a k (vp_nar .byte x)) H locs → W p l e R s m args below meth c H locs cells slots Q (F0 m (pc + 1) ls rest)) : W p l e R s m args below meth c H locs cells slots Q (F0 m pc ls (.int x :: .int i :: .ref (z_ad E a) :: rest)) := by
  subst hk
  obtain ⟨hex, hb, hml, hown, hts, hK, hD, hA, -⟩ := C
  obtain ⟨q0, hq, he⟩ := z_at σ ha
  rw [hce] at he
  refine va_bast hex hb hK.1 hs.1 (hD σ) hs.2 q0 1 he rfl (z_in_p g) hdg (fun H1 locs1 h1 _ h3 => kk H1 locs1 ⟨?_, h3⟩)
  rw [z_setG (hD σ) hq (τ := z_up σ a i.toNatClampNeg (vp_nar .byte x)) z_upR_o (by rw [hce, z_up, z_upR_s])] at h1
  exact h1
theorem z_zast (C : z_C E own cc nL A p s m args meth c) (hs : z_H E A s σ H locs) {a : zJ} (ha : a ∈ z_ids E) {n : Nat} (hce : ∀ r h, z_cell E r h a = .inl (z_cy E 2, n, .inl r)) {i x : Int32} (g : z_in i n = true) {k : Nat} (hk : i.toNatClampNeg = k) (hdg : decode cc pc = .ok (.bastore, 1))
    (kk : ∀ (H : Heap) (locs : List Loc), z_H E A s (z_up σ a k (vp_nar .boolean x)) H locs → W p l e R s m args below meth c H locs cells slots Q (F0 m (pc + 1) ls rest)) : W p l e R s m args below meth c H locs cells slots Q (F0 m pc ls (.int x :: .int i :: .ref (z_ad E a) :: rest)) := by
  subst hk
  obtain ⟨hex, hb, hml, hown, hts, hK, hD, hA, -⟩ := C
  obtain ⟨q0, hq, he⟩ := z_at σ ha
  rw [hce] at he
  refine va_zast hex hb hK.1 hs.1 (hD σ) hs.2 q0 2 he rfl (z_in_p g) hdg (fun H1 locs1 h1 _ h3 => kk H1 locs1 ⟨?_, h3⟩)
  rw [z_setG (hD σ) hq (τ := z_up σ a i.toNatClampNeg (vp_nar .boolean x)) z_upR_o (by rw [hce, z_up, z_upR_s])] at h1
  exact h1
theorem z_last (C : z_C E own cc nL A p s m args meth c) (hs : z_H E A s σ H locs) {a : zJ} (ha : a ∈ z_ids E) {n : Nat} (hce : ∀ r h, z_cell E r h a = .inl (z_cy E 3, n, .inr (.inl h))) {i : Int32} {x : Int64} (g : z_in i n = true) {k : Nat} (hk : i.toNatClampNeg = k) (hdg : decode cc pc = .ok (.lastore, 1))
    (kk : ∀ (H : Heap) (locs : List Loc), z_H E A s (z_upl σ a k x) H locs → W p l e R s m args below meth c H locs cells slots Q (F0 m (pc + 1) ls rest)) : W p l e R s m args below meth c H locs cells slots Q (F0 m pc ls (.long x :: .int i :: .ref (z_ad E a) :: rest)) := by
  subst hk
  obtain ⟨hex, hb, hml, hown, hts, hK, hD, hA, -⟩ := C
  obtain ⟨q0, hq, he⟩ := z_at σ ha
  rw [hce] at he
  refine va_last hex hb hK.1 hs.1 (hD σ) hs.2 q0 3 he rfl (z_in_p g) hdg (fun H1 locs1 h1 _ h3 => kk H1 locs1 ⟨?_, h3⟩)
  rw [z_setG (hD σ) hq (τ := z_upl σ a i.toNatClampNeg x) z_upH_o (by rw [hce, z_upl, z_upH_s])] at h1
  exact h1
theorem z_acp (C : z_C E own cc nL A p s m args meth c) (hs : z_H E A s σ H locs) (hls : ls.size = nL) {a b : zJ} (ha : a ∈ z_ids E) (hb : b ∈ z_ids E) {n0 n1 : Nat} (hca : ∀ r h, z_cell E r h a = .inl (z_cy E 0, n0, .inl r)) (hcb : ∀ r h, z_cell E r h b = .inl (z_cy E 0, n1, .inl r)) {index : Nat} (hl : Cond.methodLink own index arraycopyName ∈ z_wl) {sp dp n : Int32} (g : z_cp sp dp n n0 n1 = true) (hfr : 1 ≤ R.frames) (hlo : 60 ≤ R.locals) (hrest : (rest.map fun v => v.category).sum ≤ 8) (hnat : (Cond.native arraycopyName) ∈ z_wl) (hst : (Cond.static arraycopyName) ∈ z_wl) (hini : (Cond.initialized "java/lang/System") ∈ z_wl) (hdg : decode cc pc = .ok (.invokestatic index, 3))
    (kk : ∀ (H : Heap) (locs : List Loc), z_H E A s (z_cpR σ a b sp dp n) H locs → W p l e R s m args below meth c H locs cells slots Q (F0 m (pc + 3) ls rest)) : W p l e R s m args below meth c H locs cells slots Q (F0 m pc ls (.int n :: .int dp :: .ref (z_ad E b) :: .int sp :: .ref (z_ad E a) :: rest)) := by
  obtain ⟨hex, hbc, hml, hown, hts, hK, hD, hA, -⟩ := C
  obtain ⟨q0, hq0, he0⟩ := z_at σ ha
  obtain ⟨q1, hq1, he1⟩ := z_at σ hb
  rw [hca] at he0
  rw [hcb] at he1
  obtain ⟨g1, g2, g3, g4, g5⟩ := z_cp_p g
  refine va_copyi hex hbc (hml.trans hls.symm) hown (hts _ hl) (hts _ hnat) (hts _ hst) (hts _ hini) hK.1 hs.1 (hD σ) hs.2 q0 q1 0 0 he0 he1 rfl rfl rfl g1 g2 g3 g4 g5 (fun i _ => rfl) hfr ?_ hdg (fun H1 locs1 h1 _ h3 => kk H1 locs1 ⟨?_, h3⟩)
  · have : nativeFrameWords "java/lang/System" "arraycopy" 5 + 11 ≤ 52 := by decide +kernel
    omega
  · rw [z_setG (hD σ) hq1 (τ := z_cpR σ a b sp dp n) z_upR_o (by rw [hcb, z_cpR, z_upR_s])] at h1
    exact h1
theorem zg_H_begun (C : z_C E own cc nL A p s m args meth c) (hs : z_H E A s σ H locs)  (ha : (40, 0, 0) ∈ z_ids E) {index : Nat} (hl : Cond.fieldLink own index "LogKeepers$History" "begun" "[I" ∈ z_wl) (hdg : decode cc pc = .ok (.getfield index, 3))
    (kk : W p l e R s m args below meth c H locs cells slots Q (F0 m (pc + 3) ls (.ref (z_ad E (41, 0, 0)) :: rest))) : W p l e R s m args below meth c H locs cells slots Q (F0 m pc ls (.ref (z_ad E (40, 0, 0)) :: rest)) :=
  z_get C hs ha (z_c40 E _ _ _ _) rfl z_iX0 0 (by decide) hl rfl hdg kk
theorem zg_H_ended (C : z_C E own cc nL A p s m args meth c) (hs : z_H E A s σ H locs)  (ha : (40, 0, 0) ∈ z_ids E) {index : Nat} (hl : Cond.fieldLink own index "LogKeepers$History" "ended" "[I" ∈ z_wl) (hdg : decode cc pc = .ok (.getfield index, 3))
    (kk : W p l e R s m args below meth c H locs cells slots Q (F0 m (pc + 3) ls (.ref (z_ad E (42, 0, 0)) :: rest))) : W p l e R s m args below meth c H locs cells slots Q (F0 m pc ls (.ref (z_ad E (40, 0, 0)) :: rest)) :=
  z_get C hs ha (z_c40 E _ _ _ _) rfl z_iX0 1 (by decide) hl rfl hdg kk
theorem zg_H_what (C : z_C E own cc nL A p s m args meth c) (hs : z_H E A s σ H locs)  (ha : (40, 0, 0) ∈ z_ids E) {index : Nat} (hl : Cond.fieldLink own index "LogKeepers$History" "what" "[I" ∈ z_wl) (hdg : decode cc pc = .ok (.getfield index, 3))
    (kk : W p l e R s m args below meth c H locs cells slots Q (F0 m (pc + 3) ls (.ref (z_ad E (43, 0, 0)) :: rest))) : W p l e R s m args below meth c H locs cells slots Q (F0 m pc ls (.ref (z_ad E (40, 0, 0)) :: rest)) :=
  z_get C hs ha (z_c40 E _ _ _ _) rfl z_iX0 2 (by decide) hl rfl hdg kk
theorem zg_H_value (C : z_C E own cc nL A p s m args meth c) (hs : z_H E A s σ H locs)  (ha : (40, 0, 0) ∈ z_ids E) {index : Nat} (hl : Cond.fieldLink own index "LogKeepers$History" "value" "[I" ∈ z_wl) (hdg : decode cc pc = .ok (.getfield index, 3))
    (kk : W p l e R s m args below meth c H locs cells slots Q (F0 m (pc + 3) ls (.ref (z_ad E (44, 0, 0)) :: rest))) : W p l e R s m args below meth c H locs cells slots Q (F0 m pc ls (.ref (z_ad E (40, 0, 0)) :: rest)) :=
  z_get C hs ha (z_c40 E _ _ _ _) rfl z_iX0 3 (by decide) hl rfl hdg kk
theorem zg_H_answer (C : z_C E own cc nL A p s m args meth c) (hs : z_H E A s σ H locs)  (ha : (40, 0, 0) ∈ z_ids E) {index : Nat} (hl : Cond.fieldLink own index "LogKeepers$History" "answer" "[I" ∈ z_wl) (hdg : decode cc pc = .ok (.getfield index, 3))
    (kk : W p l e R s m args below meth c H locs cells slots Q (F0 m (pc + 3) ls (.ref (z_ad E (45, 0, 0)) :: rest))) : W p l e R s m args below meth c H locs cells slots Q (F0 m pc ls (.ref (z_ad E (40, 0, 0)) :: rest)) :=
  z_get C hs ha (z_c40 E _ _ _ _) rfl z_iX0 4 (by decide) hl rfl hdg kk
theorem zg_H_first (C : z_C E own cc nL A p s m args meth c) (hs : z_H E A s σ H locs)  (ha : (40, 0, 0) ∈ z_ids E) {index : Nat} (hl : Cond.fieldLink own index "LogKeepers$History" "first" "[I" ∈ z_wl) (hdg : decode cc pc = .ok (.getfield index, 3))
    (kk : W p l e R s m args below meth c H locs cells slots Q (F0 m (pc + 3) ls (.ref (z_ad E (46, 0, 0)) :: rest))) : W p l e R s m args below meth c H locs cells slots Q (F0 m pc ls (.ref (z_ad E (40, 0, 0)) :: rest)) :=
  z_get C hs ha (z_c40 E _ _ _ _) rfl z_iX0 5 (by decide) hl rfl hdg kk
theorem zg_H_hopeless (C : z_C E own cc nL A p s m args meth c) (hs : z_H E A s σ H locs)  (ha : (40, 0, 0) ∈ z_ids E) {index : Nat} (hl : Cond.fieldLink own index "LogKeepers$History" "hopeless" "[I" ∈ z_wl) (hdg : decode cc pc = .ok (.getfield index, 3))
    (kk : W p l e R s m args below meth c H locs cells slots Q (F0 m (pc + 3) ls (.ref (z_ad E (47, 0, 0)) :: rest))) : W p l e R s m args below meth c H locs cells slots Q (F0 m pc ls (.ref (z_ad E (40, 0, 0)) :: rest)) :=
  z_get C hs ha (z_c40 E _ _ _ _) rfl z_iX0 6 (by decide) hl rfl hdg kk
theorem zg_H_size (C : z_C E own cc nL A p s m args meth c) (hs : z_H E A s σ H locs)  (ha : (40, 0, 0) ∈ z_ids E) {index : Nat} (hl : Cond.fieldLink own index "LogKeepers$History" "size" "I" ∈ z_wl) (hdg : decode cc pc = .ok (.getfield index, 3))
    (kk : W p l e R s m args below meth c H locs cells slots Q (F0 m (pc + 3) ls (.int (σ.1 (40, 0, 0) 7) :: rest))) : W p l e R s m args below meth c H locs cells slots Q (F0 m pc ls (.ref (z_ad E (40, 0, 0)) :: rest)) :=
  z_get C hs ha (z_c40 E _ _ _ _) rfl z_iX0 7 (by decide) hl rfl hdg kk
theorem zp_H_size (C : z_C E own cc nL A p s m args meth c) (hs : z_H E A s σ H locs)  (ha : (40, 0, 0) ∈ z_ids E) {index : Nat} (hl : Cond.fieldLink own index "LogKeepers$History" "size" "I" ∈ z_wl) {v : Int32} (hdg : decode cc pc = .ok (.putfield index, 3))
    (kk : ∀ (H : Heap) (locs : List Loc), z_H E A s (z_up σ (40, 0, 0) 7 v) H locs → W p l e R s m args below meth c H locs cells slots Q (F0 m (pc + 3) ls rest)) : W p l e R s m args below meth c H locs cells slots Q (F0 m pc ls (.int v :: .ref (z_ad E (40, 0, 0)) :: rest)) :=
  z_put C hs ha (z_c40 E _ _ _ _) rfl z_iX0 tyX0 tyX0_ok nmX0 7 (by decide) hl rfl (ty := .int) rfl rfl rfl (Nat.le_of_ble_eq_true rfl) (τ := z_up σ (40, 0, 0) 7 v) z_upR_o (by rw [z_up, z_upR_s]; rfl) hdg kk
theorem zg_H_judged (C : z_C E own cc nL A p s m args meth c) (hs : z_H E A s σ H locs)  (ha : (40, 0, 0) ∈ z_ids E) {index : Nat} (hl : Cond.fieldLink own index "LogKeepers$History" "judged" "Z" ∈ z_wl) (hdg : decode cc pc = .ok (.getfield index, 3))
    (kk : W p l e R s m args below meth c H locs cells slots Q (F0 m (pc + 3) ls (.int (σ.1 (40, 0, 0) 8) :: rest))) : W p l e R s m args below meth c H locs cells slots Q (F0 m pc ls (.ref (z_ad E (40, 0, 0)) :: rest)) :=
  z_get C hs ha (z_c40 E _ _ _ _) rfl z_iX0 8 (by decide) hl rfl hdg kk
theorem zp_H_judged (C : z_C E own cc nL A p s m args meth c) (hs : z_H E A s σ H locs)  (ha : (40, 0, 0) ∈ z_ids E) {index : Nat} (hl : Cond.fieldLink own index "LogKeepers$History" "judged" "Z" ∈ z_wl) {v : Int32} (hv : z_b01 v = true) (hdg : decode cc pc = .ok (.putfield index, 3))
    (kk : ∀ (H : Heap) (locs : List Loc), z_H E A s (z_up σ (40, 0, 0) 8 v) H locs → W p l e R s m args below meth c H locs cells slots Q (F0 m (pc + 3) ls rest)) : W p l e R s m args below meth c H locs cells slots Q (F0 m pc ls (.int v :: .ref (z_ad E (40, 0, 0)) :: rest)) :=
  z_put C hs ha (z_c40 E _ _ _ _) rfl z_iX0 tyX0 tyX0_ok nmX0 8 (by decide) hl rfl (ty := .boolean) rfl (z_b01n hv) (z_b01f hv) (Nat.le_of_ble_eq_true rfl) (τ := z_up σ (40, 0, 0) 8 v) z_upR_o (by rw [z_up, z_upR_s]; rfl) hdg kk
theorem zg_H_right (C : z_C E own cc nL A p s m args meth c) (hs : z_H E A s σ H locs)  (ha : (40, 0, 0) ∈ z_ids E) {index : Nat} (hl : Cond.fieldLink own index "LogKeepers$History" "right" "Z" ∈ z_wl) (hdg : decode cc pc = .ok (.getfield index, 3))
    (kk : W p l e R s m args below meth c H locs cells slots Q (F0 m (pc + 3) ls (.int (σ.1 (40, 0, 0) 9) :: rest))) : W p l e R s m args below meth c H locs cells slots Q (F0 m pc ls (.ref (z_ad E (40, 0, 0)) :: rest)) :=
  z_get C hs ha (z_c40 E _ _ _ _) rfl z_iX0 9 (by decide) hl rfl hdg kk
theorem zp_H_right (C : z_C E own cc nL A p s m args meth c) (hs : z_H E A s σ H locs)  (ha : (40, 0, 0) ∈ z_ids E) {index : Nat} (hl : Cond.fieldLink own index "LogKeepers$History" "right" "Z" ∈ z_wl) {v : Int32} (hv : z_b01 v = true) (hdg : decode cc pc = .ok (.putfield index, 3))
    (kk : ∀ (H : Heap) (locs : List Loc), z_H E A s (z_up σ (40, 0, 0) 9 v) H locs → W p l e R s m args below meth c H locs cells slots Q (F0 m (pc + 3) ls rest)) : W p l e R s m args below meth c H locs cells slots Q (F0 m pc ls (.int v :: .ref (z_ad E (40, 0, 0)) :: rest)) :=
  z_put C hs ha (z_c40 E _ _ _ _) rfl z_iX0 tyX0 tyX0_ok nmX0 9 (by decide) hl rfl (ty := .boolean) rfl (z_b01n hv) (z_b01f hv) (Nat.le_of_ble_eq_true rfl) (τ := z_up σ (40, 0, 0) 9 v) z_upR_o (by rw [z_up, z_upR_s]; rfl) hdg kk
theorem zg_K_voter (C : z_C E own cc nL A p s m args meth c) (hs : z_H E A s σ H locs) {w i : Nat} (ha : (10, w, i) ∈ z_ids E) {index : Nat} (hl : Cond.fieldLink own index "LogKeepers$Keeper" "voter" "Z" ∈ z_wl) (hdg : decode cc pc = .ok (.getfield index, 3))
    (kk : W p l e R s m args below meth c H locs cells slots Q (F0 m (pc + 3) ls (.int (σ.1 (10, w, i) 0) :: rest))) : W p l e R s m args below meth c H locs cells slots Q (F0 m pc ls (.ref (z_ad E (10, w, i)) :: rest)) :=
  z_get C hs ha (z_c10 E _ _ _ _) rfl z_iX1 0 (by decide) hl rfl hdg kk
theorem zp_K_voter (C : z_C E own cc nL A p s m args meth c) (hs : z_H E A s σ H locs) {w i : Nat} (ha : (10, w, i) ∈ z_ids E) {index : Nat} (hl : Cond.fieldLink own index "LogKeepers$Keeper" "voter" "Z" ∈ z_wl) {v : Int32} (hv : z_b01 v = true) (hdg : decode cc pc = .ok (.putfield index, 3))
    (kk : ∀ (H : Heap) (locs : List Loc), z_H E A s (z_up σ (10, w, i) 0 v) H locs → W p l e R s m args below meth c H locs cells slots Q (F0 m (pc + 3) ls rest)) : W p l e R s m args below meth c H locs cells slots Q (F0 m pc ls (.int v :: .ref (z_ad E (10, w, i)) :: rest)) :=
  z_put C hs ha (z_c10 E _ _ _ _) rfl z_iX1 tyX1 tyX1_ok nmX1 0 (by decide) hl rfl (ty := .boolean) rfl (z_b01n hv) (z_b01f hv) (Nat.le_of_ble_eq_true rfl) (τ := z_up σ (10, w, i) 0 v) z_upR_o (by rw [z_up, z_upR_s]; rfl) hdg kk
theorem zg_K_fallen (C : z_C E own cc nL A p s m args meth c) (hs : z_H E A s σ H locs) {w i : Nat} (ha : (10, w, i) ∈ z_ids E) {index : Nat} (hl : Cond.fieldLink own index "LogKeepers$Keeper" "fallen" "Z" ∈ z_wl) (hdg : decode cc pc = .ok (.getfield index, 3))
    (kk : W p l e R s m args below meth c H locs cells slots Q (F0 m (pc + 3) ls (.int (σ.1 (10, w, i) 1) :: rest))) : W p l e R s m args below meth c H locs cells slots Q (F0 m pc ls (.ref (z_ad E (10, w, i)) :: rest)) :=
  z_get C hs ha (z_c10 E _ _ _ _) rfl z_iX1 1 (by decide) hl rfl hdg kk
theorem zp_K_fallen (C : z_C E own cc nL A p s m args meth c) (hs : z_H E A s σ H locs) {w i : Nat} (ha : (10, w, i) ∈ z_ids E) {index : Nat} (hl : Cond.fieldLink own index "LogKeepers$Keeper" "fallen" "Z" ∈ z_wl) {v : Int32} (hv : z_b01 v = true) (hdg : decode cc pc = .ok (.putfield index, 3))
    (kk : ∀ (H : Heap) (locs : List Loc), z_H E A s (z_up σ (10, w, i) 1 v) H locs → W p l e R s m args below meth c H locs cells slots Q (F0 m (pc + 3) ls rest)) : W p l e R s m args below meth c H locs cells slots Q (F0 m pc ls (.int v :: .ref (z_ad E (10, w, i)) :: rest)) :=
  z_put C hs ha (z_c10 E _ _ _ _) rfl z_iX1 tyX1 tyX1_ok nmX1 1 (by decide) hl rfl (ty := .boolean) rfl (z_b01n hv) (z_b01f hv) (Nat.le_of_ble_eq_true rfl) (τ := z_up σ (10, w, i) 1 v) z_upR_o (by rw [z_up, z_upR_s]; rfl) hdg kk
theorem zg_K_term (C : z_C E own cc nL A p s m args meth c) (hs : z_H E A s σ H locs) {w i : Nat} (ha : (10, w, i) ∈ z_ids E) {index : Nat} (hl : Cond.fieldLink own index "LogKeepers$Keeper" "term" "I" ∈ z_wl) (hdg : decode cc pc = .ok (.getfield index, 3))
    (kk : W p l e R s m args below meth c H locs cells slots Q (F0 m (pc + 3) ls (.int (σ.1 (10, w, i) 2) :: rest))) : W p l e R s m args below meth c H locs cells slots Q (F0 m pc ls (.ref (z_ad E (10, w, i)) :: rest)) :=
  z_get C hs ha (z_c10 E _ _ _ _) rfl z_iX1 2 (by decide) hl rfl hdg kk
theorem zp_K_term (C : z_C E own cc nL A p s m args meth c) (hs : z_H E A s σ H locs) {w i : Nat} (ha : (10, w, i) ∈ z_ids E) {index : Nat} (hl : Cond.fieldLink own index "LogKeepers$Keeper" "term" "I" ∈ z_wl) {v : Int32} (hdg : decode cc pc = .ok (.putfield index, 3))
    (kk : ∀ (H : Heap) (locs : List Loc), z_H E A s (z_up σ (10, w, i) 2 v) H locs → W p l e R s m args below meth c H locs cells slots Q (F0 m (pc + 3) ls rest)) : W p l e R s m args below meth c H locs cells slots Q (F0 m pc ls (.int v :: .ref (z_ad E (10, w, i)) :: rest)) :=
  z_put C hs ha (z_c10 E _ _ _ _) rfl z_iX1 tyX1 tyX1_ok nmX1 2 (by decide) hl rfl (ty := .int) rfl rfl rfl (Nat.le_of_ble_eq_true rfl) (τ := z_up σ (10, w, i) 2 v) z_upR_o (by rw [z_up, z_upR_s]; rfl) hdg kk
theorem zg_K_vote (C : z_C E own cc nL A p s m args meth c) (hs : z_H E A s σ H locs) {w i : Nat} (ha : (10, w, i) ∈ z_ids E) {index : Nat} (hl : Cond.fieldLink own index "LogKeepers$Keeper" "vote" "I" ∈ z_wl) (hdg : decode cc pc = .ok (.getfield index, 3))
    (kk : W p l e R s m args below meth c H locs cells slots Q (F0 m (pc + 3) ls (.int (σ.1 (10, w, i) 3) :: rest))) : W p l e R s m args below meth c H locs cells slots Q (F0 m pc ls (.ref (z_ad E (10, w, i)) :: rest)) :=
  z_get C hs ha (z_c10 E _ _ _ _) rfl z_iX1 3 (by decide) hl rfl hdg kk
theorem zp_K_vote (C : z_C E own cc nL A p s m args meth c) (hs : z_H E A s σ H locs) {w i : Nat} (ha : (10, w, i) ∈ z_ids E) {index : Nat} (hl : Cond.fieldLink own index "LogKeepers$Keeper" "vote" "I" ∈ z_wl) {v : Int32} (hdg : decode cc pc = .ok (.putfield index, 3))
    (kk : ∀ (H : Heap) (locs : List Loc), z_H E A s (z_up σ (10, w, i) 3 v) H locs → W p l e R s m args below meth c H locs cells slots Q (F0 m (pc + 3) ls rest)) : W p l e R s m args below meth c H locs cells slots Q (F0 m pc ls (.int v :: .ref (z_ad E (10, w, i)) :: rest)) :=
  z_put C hs ha (z_c10 E _ _ _ _) rfl z_iX1 tyX1 tyX1_ok nmX1 3 (by decide) hl rfl (ty := .int) rfl rfl rfl (Nat.le_of_ble_eq_true rfl) (τ := z_up σ (10, w, i) 3 v) z_upR_o (by rw [z_up, z_upR_s]; rfl) hdg kk
theorem zg_K_role (C : z_C E own cc nL A p s m args meth c) (hs : z_H E A s σ H locs) {w i : Nat} (ha : (10, w, i) ∈ z_ids E) {index : Nat} (hl : Cond.fieldLink own index "LogKeepers$Keeper" "role" "I" ∈ z_wl) (hdg : decode cc pc = .ok (.getfield index, 3))
    (kk : W p l e R s m args below meth c H locs cells slots Q (F0 m (pc + 3) ls (.int (σ.1 (10, w, i) 4) :: rest))) : W p l e R s m args below meth c H locs cells slots Q (F0 m pc ls (.ref (z_ad E (10, w, i)) :: rest)) :=
  z_get C hs ha (z_c10 E _ _ _ _) rfl z_iX1 4 (by decide) hl rfl hdg kk
theorem zp_K_role (C : z_C E own cc nL A p s m args meth c) (hs : z_H E A s σ H locs) {w i : Nat} (ha : (10, w, i) ∈ z_ids E) {index : Nat} (hl : Cond.fieldLink own index "LogKeepers$Keeper" "role" "I" ∈ z_wl) {v : Int32} (hdg : decode cc pc = .ok (.putfield index, 3))
    (kk : ∀ (H : Heap) (locs : List Loc), z_H E A s (z_up σ (10, w, i) 4 v) H locs → W p l e R s m args below meth c H locs cells slots Q (F0 m (pc + 3) ls rest)) : W p l e R s m args below meth c H locs cells slots Q (F0 m pc ls (.int v :: .ref (z_ad E (10, w, i)) :: rest)) :=
  z_put C hs ha (z_c10 E _ _ _ _) rfl z_iX1 tyX1 tyX1_ok nmX1 4 (by decide) hl rfl (ty := .int) rfl rfl rfl (Nat.le_of_ble_eq_true rfl) (τ := z_up σ (10, w, i) 4 v) z_upR_o (by rw [z_up, z_upR_s]; rfl) hdg kk
theorem zg_K_folded (C : z_C E own cc nL A p s m args meth c) (hs : z_H E A s σ H locs) {w i : Nat} (ha : (10, w, i) ∈ z_ids E) {index : Nat} (hl : Cond.fieldLink own index "LogKeepers$Keeper" "folded" "I" ∈ z_wl) (hdg : decode cc pc = .ok (.getfield index, 3))
    (kk : W p l e R s m args below meth c H locs cells slots Q (F0 m (pc + 3) ls (.int (σ.1 (10, w, i) 5) :: rest))) : W p l e R s m args below meth c H locs cells slots Q (F0 m pc ls (.ref (z_ad E (10, w, i)) :: rest)) :=
  z_get C hs ha (z_c10 E _ _ _ _) rfl z_iX1 5 (by decide) hl rfl hdg kk
theorem zp_K_folded (C : z_C E own cc nL A p s m args meth c) (hs : z_H E A s σ H locs) {w i : Nat} (ha : (10, w, i) ∈ z_ids E) {index : Nat} (hl : Cond.fieldLink own index "LogKeepers$Keeper" "folded" "I" ∈ z_wl) {v : Int32} (hdg : decode cc pc = .ok (.putfield index, 3))
    (kk : ∀ (H : Heap) (locs : List Loc), z_H E A s (z_up σ (10, w, i) 5 v) H locs → W p l e R s m args below meth c H locs cells slots Q (F0 m (pc + 3) ls rest)) : W p l e R s m args below meth c H locs cells slots Q (F0 m pc ls (.int v :: .ref (z_ad E (10, w, i)) :: rest)) :=
  z_put C hs ha (z_c10 E _ _ _ _) rfl z_iX1 tyX1 tyX1_ok nmX1 5 (by decide) hl rfl (ty := .int) rfl rfl rfl (Nat.le_of_ble_eq_true rfl) (τ := z_up σ (10, w, i) 5 v) z_upR_o (by rw [z_up, z_upR_s]; rfl) hdg kk
theorem zg_K_foldTerm (C : z_C E own cc nL A p s m args meth c) (hs : z_H E A s σ H locs) {w i : Nat} (ha : (10, w, i) ∈ z_ids E) {index : Nat} (hl : Cond.fieldLink own index "LogKeepers$Keeper" "foldTerm" "I" ∈ z_wl) (hdg : decode cc pc = .ok (.getfield index, 3))
    (kk : W p l e R s m args below meth c H locs cells slots Q (F0 m (pc + 3) ls (.int (σ.1 (10, w, i) 6) :: rest))) : W p l e R s m args below meth c H locs cells slots Q (F0 m pc ls (.ref (z_ad E (10, w, i)) :: rest)) :=
  z_get C hs ha (z_c10 E _ _ _ _) rfl z_iX1 6 (by decide) hl rfl hdg kk
theorem zp_K_foldTerm (C : z_C E own cc nL A p s m args meth c) (hs : z_H E A s σ H locs) {w i : Nat} (ha : (10, w, i) ∈ z_ids E) {index : Nat} (hl : Cond.fieldLink own index "LogKeepers$Keeper" "foldTerm" "I" ∈ z_wl) {v : Int32} (hdg : decode cc pc = .ok (.putfield index, 3))
    (kk : ∀ (H : Heap) (locs : List Loc), z_H E A s (z_up σ (10, w, i) 6 v) H locs → W p l e R s m args below meth c H locs cells slots Q (F0 m (pc + 3) ls rest)) : W p l e R s m args below meth c H locs cells slots Q (F0 m pc ls (.int v :: .ref (z_ad E (10, w, i)) :: rest)) :=
  z_put C hs ha (z_c10 E _ _ _ _) rfl z_iX1 tyX1 tyX1_ok nmX1 6 (by decide) hl rfl (ty := .int) rfl rfl rfl (Nat.le_of_ble_eq_true rfl) (τ := z_up σ (10, w, i) 6 v) z_upR_o (by rw [z_up, z_upR_s]; rfl) hdg kk
theorem zg_K_last (C : z_C E own cc nL A p s m args meth c) (hs : z_H E A s σ H locs) {w i : Nat} (ha : (10, w, i) ∈ z_ids E) {index : Nat} (hl : Cond.fieldLink own index "LogKeepers$Keeper" "last" "I" ∈ z_wl) (hdg : decode cc pc = .ok (.getfield index, 3))
    (kk : W p l e R s m args below meth c H locs cells slots Q (F0 m (pc + 3) ls (.int (σ.1 (10, w, i) 7) :: rest))) : W p l e R s m args below meth c H locs cells slots Q (F0 m pc ls (.ref (z_ad E (10, w, i)) :: rest)) :=
  z_get C hs ha (z_c10 E _ _ _ _) rfl z_iX1 7 (by decide) hl rfl hdg kk
theorem zp_K_last (C : z_C E own cc nL A p s m args meth c) (hs : z_H E A s σ H locs) {w i : Nat} (ha : (10, w, i) ∈ z_ids E) {index : Nat} (hl : Cond.fieldLink own index "LogKeepers$Keeper" "last" "I" ∈ z_wl) {v : Int32} (hdg : decode cc pc = .ok (.putfield index, 3))
    (kk : ∀ (H : Heap) (locs : List Loc), z_H E A s (z_up σ (10, w, i) 7 v) H locs → W p l e R s m args below meth c H locs cells slots Q (F0 m (pc + 3) ls rest)) : W p l e R s m args below meth c H locs cells slots Q (F0 m pc ls (.int v :: .ref (z_ad E (10, w, i)) :: rest)) :=
  z_put C hs ha (z_c10 E _ _ _ _) rfl z_iX1 tyX1 tyX1_ok nmX1 7 (by decide) hl rfl (ty := .int) rfl rfl rfl (Nat.le_of_ble_eq_true rfl) (τ := z_up σ (10, w, i) 7 v) z_upR_o (by rw [z_up, z_upR_s]; rfl) hdg kk
theorem zg_K_done (C : z_C E own cc nL A p s m args meth c) (hs : z_H E A s σ H locs) {w i : Nat} (ha : (10, w, i) ∈ z_ids E) {index : Nat} (hl : Cond.fieldLink own index "LogKeepers$Keeper" "done" "I" ∈ z_wl) (hdg : decode cc pc = .ok (.getfield index, 3))
    (kk : W p l e R s m args below meth c H locs cells slots Q (F0 m (pc + 3) ls (.int (σ.1 (10, w, i) 8) :: rest))) : W p l e R s m args below meth c H locs cells slots Q (F0 m pc ls (.ref (z_ad E (10, w, i)) :: rest)) :=
  z_get C hs ha (z_c10 E _ _ _ _) rfl z_iX1 8 (by decide) hl rfl hdg kk
theorem zp_K_done (C : z_C E own cc nL A p s m args meth c) (hs : z_H E A s σ H locs) {w i : Nat} (ha : (10, w, i) ∈ z_ids E) {index : Nat} (hl : Cond.fieldLink own index "LogKeepers$Keeper" "done" "I" ∈ z_wl) {v : Int32} (hdg : decode cc pc = .ok (.putfield index, 3))
    (kk : ∀ (H : Heap) (locs : List Loc), z_H E A s (z_up σ (10, w, i) 8 v) H locs → W p l e R s m args below meth c H locs cells slots Q (F0 m (pc + 3) ls rest)) : W p l e R s m args below meth c H locs cells slots Q (F0 m pc ls (.int v :: .ref (z_ad E (10, w, i)) :: rest)) :=
  z_put C hs ha (z_c10 E _ _ _ _) rfl z_iX1 tyX1 tyX1_ok nmX1 8 (by decide) hl rfl (ty := .int) rfl rfl rfl (Nat.le_of_ble_eq_true rfl) (τ := z_up σ (10, w, i) 8 v) z_upR_o (by rw [z_up, z_upR_s]; rfl) hdg kk
theorem zg_K_ballots (C : z_C E own cc nL A p s m args meth c) (hs : z_H E A s σ H locs) {w i : Nat} (ha : (10, w, i) ∈ z_ids E) {index : Nat} (hl : Cond.fieldLink own index "LogKeepers$Keeper" "ballots" "I" ∈ z_wl) (hdg : decode cc pc = .ok (.getfield index, 3))
    (kk : W p l e R s m args below meth c H locs cells slots Q (F0 m (pc + 3) ls (.int (σ.1 (10, w, i) 9) :: rest))) : W p l e R s m args below meth c H locs cells slots Q (F0 m pc ls (.ref (z_ad E (10, w, i)) :: rest)) :=
  z_get C hs ha (z_c10 E _ _ _ _) rfl z_iX1 9 (by decide) hl rfl hdg kk
theorem zp_K_ballots (C : z_C E own cc nL A p s m args meth c) (hs : z_H E A s σ H locs) {w i : Nat} (ha : (10, w, i) ∈ z_ids E) {index : Nat} (hl : Cond.fieldLink own index "LogKeepers$Keeper" "ballots" "I" ∈ z_wl) {v : Int32} (hdg : decode cc pc = .ok (.putfield index, 3))
    (kk : ∀ (H : Heap) (locs : List Loc), z_H E A s (z_up σ (10, w, i) 9 v) H locs → W p l e R s m args below meth c H locs cells slots Q (F0 m (pc + 3) ls rest)) : W p l e R s m args below meth c H locs cells slots Q (F0 m pc ls (.int v :: .ref (z_ad E (10, w, i)) :: rest)) :=
  z_put C hs ha (z_c10 E _ _ _ _) rfl z_iX1 tyX1 tyX1_ok nmX1 9 (by decide) hl rfl (ty := .int) rfl rfl rfl (Nat.le_of_ble_eq_true rfl) (τ := z_up σ (10, w, i) 9 v) z_upR_o (by rw [z_up, z_upR_s]; rfl) hdg kk
theorem zg_K_round (C : z_C E own cc nL A p s m args meth c) (hs : z_H E A s σ H locs) {w i : Nat} (ha : (10, w, i) ∈ z_ids E) {index : Nat} (hl : Cond.fieldLink own index "LogKeepers$Keeper" "round" "I" ∈ z_wl) (hdg : decode cc pc = .ok (.getfield index, 3))
    (kk : W p l e R s m args below meth c H locs cells slots Q (F0 m (pc + 3) ls (.int (σ.1 (10, w, i) 10) :: rest))) : W p l e R s m args below meth c H locs cells slots Q (F0 m pc ls (.ref (z_ad E (10, w, i)) :: rest)) :=
  z_get C hs ha (z_c10 E _ _ _ _) rfl z_iX1 10 (by decide) hl rfl hdg kk
theorem zp_K_round (C : z_C E own cc nL A p s m args meth c) (hs : z_H E A s σ H locs) {w i : Nat} (ha : (10, w, i) ∈ z_ids E) {index : Nat} (hl : Cond.fieldLink own index "LogKeepers$Keeper" "round" "I" ∈ z_wl) {v : Int32} (hdg : decode cc pc = .ok (.putfield index, 3))
    (kk : ∀ (H : Heap) (locs : List Loc), z_H E A s (z_up σ (10, w, i) 10 v) H locs → W p l e R s m args below meth c H locs cells slots Q (F0 m (pc + 3) ls rest)) : W p l e R s m args below meth c H locs cells slots Q (F0 m pc ls (.int v :: .ref (z_ad E (10, w, i)) :: rest)) :=
  z_put C hs ha (z_c10 E _ _ _ _) rfl z_iX1 tyX1 tyX1_ok nmX1 10 (by decide) hl rfl (ty := .int) rfl rfl rfl (Nat.le_of_ble_eq_true rfl) (τ := z_up σ (10, w, i) 10 v) z_upR_o (by rw [z_up, z_upR_s]; rfl) hdg kk
theorem zg_K_entries (C : z_C E own cc nL A p s m args meth c) (hs : z_H E A s σ H locs) {w i : Nat} (ha : (10, w, i) ∈ z_ids E) {index : Nat} (hl : Cond.fieldLink own index "LogKeepers$Keeper" "entries" "[I" ∈ z_wl) (hdg : decode cc pc = .ok (.getfield index, 3))
    (kk : W p l e R s m args below meth c H locs cells slots Q (F0 m (pc + 3) ls (.ref (z_ad E (11, w, i)) :: rest))) : W p l e R s m args below meth c H locs cells slots Q (F0 m pc ls (.ref (z_ad E (10, w, i)) :: rest)) :=
  z_get C hs ha (z_c10 E _ _ _ _) rfl z_iX1 11 (by decide) hl rfl hdg kk
theorem zg_K_foldState (C : z_C E own cc nL A p s m args meth c) (hs : z_H E A s σ H locs) {w i : Nat} (ha : (10, w, i) ∈ z_ids E) {index : Nat} (hl : Cond.fieldLink own index "LogKeepers$Keeper" "foldState" "LLogKeepers$State;" ∈ z_wl) (hdg : decode cc pc = .ok (.getfield index, 3))
    (kk : W p l e R s m args below meth c H locs cells slots Q (F0 m (pc + 3) ls (.ref (z_ad E (12, w, i)) :: rest))) : W p l e R s m args below meth c H locs cells slots Q (F0 m pc ls (.ref (z_ad E (10, w, i)) :: rest)) :=
  z_get C hs ha (z_c10 E _ _ _ _) rfl z_iX1 12 (by decide) hl rfl hdg kk
theorem zg_K_doneState (C : z_C E own cc nL A p s m args meth c) (hs : z_H E A s σ H locs) {w i : Nat} (ha : (10, w, i) ∈ z_ids E) {index : Nat} (hl : Cond.fieldLink own index "LogKeepers$Keeper" "doneState" "LLogKeepers$State;" ∈ z_wl) (hdg : decode cc pc = .ok (.getfield index, 3))
    (kk : W p l e R s m args below meth c H locs cells slots Q (F0 m (pc + 3) ls (.ref (z_ad E (14, w, i)) :: rest))) : W p l e R s m args below meth c H locs cells slots Q (F0 m pc ls (.ref (z_ad E (10, w, i)) :: rest)) :=
  z_get C hs ha (z_c10 E _ _ _ _) rfl z_iX1 13 (by decide) hl rfl hdg kk
theorem zg_K_next (C : z_C E own cc nL A p s m args meth c) (hs : z_H E A s σ H locs) {w i : Nat} (ha : (10, w, i) ∈ z_ids E) {index : Nat} (hl : Cond.fieldLink own index "LogKeepers$Keeper" "next" "[I" ∈ z_wl) (hdg : decode cc pc = .ok (.getfield index, 3))
    (kk : W p l e R s m args below meth c H locs cells slots Q (F0 m (pc + 3) ls (.ref (z_ad E (16, w, i)) :: rest))) : W p l e R s m args below meth c H locs cells slots Q (F0 m pc ls (.ref (z_ad E (10, w, i)) :: rest)) :=
  z_get C hs ha (z_c10 E _ _ _ _) rfl z_iX1 14 (by decide) hl rfl hdg kk
theorem zg_K_sure (C : z_C E own cc nL A p s m args meth c) (hs : z_H E A s σ H locs) {w i : Nat} (ha : (10, w, i) ∈ z_ids E) {index : Nat} (hl : Cond.fieldLink own index "LogKeepers$Keeper" "sure" "[I" ∈ z_wl) (hdg : decode cc pc = .ok (.getfield index, 3))
    (kk : W p l e R s m args below meth c H locs cells slots Q (F0 m (pc + 3) ls (.ref (z_ad E (17, w, i)) :: rest))) : W p l e R s m args below meth c H locs cells slots Q (F0 m pc ls (.ref (z_ad E (10, w, i)) :: rest)) :=
  z_get C hs ha (z_c10 E _ _ _ _) rfl z_iX1 15 (by decide) hl rfl hdg kk
theorem zg_K_answered (C : z_C E own cc nL A p s m args meth c) (hs : z_H E A s σ H locs) {w i : Nat} (ha : (10, w, i) ∈ z_ids E) {index : Nat} (hl : Cond.fieldLink own index "LogKeepers$Keeper" "answered" "[I" ∈ z_wl) (hdg : decode cc pc = .ok (.getfield index, 3))
    (kk : W p l e R s m args below meth c H locs cells slots Q (F0 m (pc + 3) ls (.ref (z_ad E (18, w, i)) :: rest))) : W p l e R s m args below meth c H locs cells slots Q (F0 m pc ls (.ref (z_ad E (10, w, i)) :: rest)) :=
  z_get C hs ha (z_c10 E _ _ _ _) rfl z_iX1 16 (by decide) hl rfl hdg kk
theorem zg_K_heard (C : z_C E own cc nL A p s m args meth c) (hs : z_H E A s σ H locs) {w i : Nat} (ha : (10, w, i) ∈ z_ids E) {index : Nat} (hl : Cond.fieldLink own index "LogKeepers$Keeper" "heard" "[I" ∈ z_wl) (hdg : decode cc pc = .ok (.getfield index, 3))
    (kk : W p l e R s m args below meth c H locs cells slots Q (F0 m (pc + 3) ls (.ref (z_ad E (19, w, i)) :: rest))) : W p l e R s m args below meth c H locs cells slots Q (F0 m pc ls (.ref (z_ad E (10, w, i)) :: rest)) :=
  z_get C hs ha (z_c10 E _ _ _ _) rfl z_iX1 17 (by decide) hl rfl hdg kk
theorem zg_L_kind (C : z_C E own cc nL A p s m args meth c) (hs : z_H E A s σ H locs) {w i : Nat} (ha : (20, w, i) ∈ z_ids E) {index : Nat} (hl : Cond.fieldLink own index "LogKeepers$Letter" "kind" "I" ∈ z_wl) (hdg : decode cc pc = .ok (.getfield index, 3))
    (kk : W p l e R s m args below meth c H locs cells slots Q (F0 m (pc + 3) ls (.int (σ.1 (20, w, i) 0) :: rest))) : W p l e R s m args below meth c H locs cells slots Q (F0 m pc ls (.ref (z_ad E (20, w, i)) :: rest)) :=
  z_get C hs ha (z_c20 E _ _ _ _) rfl z_iX2 0 (by decide) hl rfl hdg kk
theorem zp_L_kind (C : z_C E own cc nL A p s m args meth c) (hs : z_H E A s σ H locs) {w i : Nat} (ha : (20, w, i) ∈ z_ids E) {index : Nat} (hl : Cond.fieldLink own index "LogKeepers$Letter" "kind" "I" ∈ z_wl) {v : Int32} (hdg : decode cc pc = .ok (.putfield index, 3))
    (kk : ∀ (H : Heap) (locs : List Loc), z_H E A s (z_up σ (20, w, i) 0 v) H locs → W p l e R s m args below meth c H locs cells slots Q (F0 m (pc + 3) ls rest)) : W p l e R s m args below meth c H locs cells slots Q (F0 m pc ls (.int v :: .ref (z_ad E (20, w, i)) :: rest)) :=
  z_put C hs ha (z_c20 E _ _ _ _) rfl z_iX2 tyX2 tyX2_ok nmX2 0 (by decide) hl rfl (ty := .int) rfl rfl rfl (Nat.le_of_ble_eq_true rfl) (τ := z_up σ (20, w, i) 0 v) z_upR_o (by rw [z_up, z_upR_s]; rfl) hdg kk
theorem zg_L_sender (C : z_C E own cc nL A p s m args meth c) (hs : z_H E A s σ H locs) {w i : Nat} (ha : (20, w, i) ∈ z_ids E) {index : Nat} (hl : Cond.fieldLink own index "LogKeepers$Letter" "sender" "I" ∈ z_wl) (hdg : decode cc pc = .ok (.getfield index, 3))
    (kk : W p l e R s m args below meth c H locs cells slots Q (F0 m (pc + 3) ls (.int (σ.1 (20, w, i) 1) :: rest))) : W p l e R s m args below meth c H locs cells slots Q (F0 m pc ls (.ref (z_ad E (20, w, i)) :: rest)) :=
  z_get C hs ha (z_c20 E _ _ _ _) rfl z_iX2 1 (by decide) hl rfl hdg kk
theorem zp_L_sender (C : z_C E own cc nL A p s m args meth c) (hs : z_H E A s σ H locs) {w i : Nat} (ha : (20, w, i) ∈ z_ids E) {index : Nat} (hl : Cond.fieldLink own index "LogKeepers$Letter" "sender" "I" ∈ z_wl) {v : Int32} (hdg : decode cc pc = .ok (.putfield index, 3))
    (kk : ∀ (H : Heap) (locs : List Loc), z_H E A s (z_up σ (20, w, i) 1 v) H locs → W p l e R s m args below meth c H locs cells slots Q (F0 m (pc + 3) ls rest)) : W p l e R s m args below meth c H locs cells slots Q (F0 m pc ls (.int v :: .ref (z_ad E (20, w, i)) :: rest)) :=
  z_put C hs ha (z_c20 E _ _ _ _) rfl z_iX2 tyX2 tyX2_ok nmX2 1 (by decide) hl rfl (ty := .int) rfl rfl rfl (Nat.le_of_ble_eq_true rfl) (τ := z_up σ (20, w, i) 1 v) z_upR_o (by rw [z_up, z_upR_s]; rfl) hdg kk
theorem zg_L_receiver (C : z_C E own cc nL A p s m args meth c) (hs : z_H E A s σ H locs) {w i : Nat} (ha : (20, w, i) ∈ z_ids E) {index : Nat} (hl : Cond.fieldLink own index "LogKeepers$Letter" "receiver" "I" ∈ z_wl) (hdg : decode cc pc = .ok (.getfield index, 3))
    (kk : W p l e R s m args below meth c H locs cells slots Q (F0 m (pc + 3) ls (.int (σ.1 (20, w, i) 2) :: rest))) : W p l e R s m args below meth c H locs cells slots Q (F0 m pc ls (.ref (z_ad E (20, w, i)) :: rest)) :=
  z_get C hs ha (z_c20 E _ _ _ _) rfl z_iX2 2 (by decide) hl rfl hdg kk
theorem zp_L_receiver (C : z_C E own cc nL A p s m args meth c) (hs : z_H E A s σ H locs) {w i : Nat} (ha : (20, w, i) ∈ z_ids E) {index : Nat} (hl : Cond.fieldLink own index "LogKeepers$Letter" "receiver" "I" ∈ z_wl) {v : Int32} (hdg : decode cc pc = .ok (.putfield index, 3))
    (kk : ∀ (H : Heap) (locs : List Loc), z_H E A s (z_up σ (20, w, i) 2 v) H locs → W p l e R s m args below meth c H locs cells slots Q (F0 m (pc + 3) ls rest)) : W p l e R s m args below meth c H locs cells slots Q (F0 m pc ls (.int v :: .ref (z_ad E (20, w, i)) :: rest)) :=
  z_put C hs ha (z_c20 E _ _ _ _) rfl z_iX2 tyX2 tyX2_ok nmX2 2 (by decide) hl rfl (ty := .int) rfl rfl rfl (Nat.le_of_ble_eq_true rfl) (τ := z_up σ (20, w, i) 2 v) z_upR_o (by rw [z_up, z_upR_s]; rfl) hdg kk
theorem zg_L_term (C : z_C E own cc nL A p s m args meth c) (hs : z_H E A s σ H locs) {w i : Nat} (ha : (20, w, i) ∈ z_ids E) {index : Nat} (hl : Cond.fieldLink own index "LogKeepers$Letter" "term" "I" ∈ z_wl) (hdg : decode cc pc = .ok (.getfield index, 3))
    (kk : W p l e R s m args below meth c H locs cells slots Q (F0 m (pc + 3) ls (.int (σ.1 (20, w, i) 3) :: rest))) : W p l e R s m args below meth c H locs cells slots Q (F0 m pc ls (.ref (z_ad E (20, w, i)) :: rest)) :=
  z_get C hs ha (z_c20 E _ _ _ _) rfl z_iX2 3 (by decide) hl rfl hdg kk
theorem zp_L_term (C : z_C E own cc nL A p s m args meth c) (hs : z_H E A s σ H locs) {w i : Nat} (ha : (20, w, i) ∈ z_ids E) {index : Nat} (hl : Cond.fieldLink own index "LogKeepers$Letter" "term" "I" ∈ z_wl) {v : Int32} (hdg : decode cc pc = .ok (.putfield index, 3))
    (kk : ∀ (H : Heap) (locs : List Loc), z_H E A s (z_up σ (20, w, i) 3 v) H locs → W p l e R s m args below meth c H locs cells slots Q (F0 m (pc + 3) ls rest)) : W p l e R s m args below meth c H locs cells slots Q (F0 m pc ls (.int v :: .ref (z_ad E (20, w, i)) :: rest)) :=
  z_put C hs ha (z_c20 E _ _ _ _) rfl z_iX2 tyX2 tyX2_ok nmX2 3 (by decide) hl rfl (ty := .int) rfl rfl rfl (Nat.le_of_ble_eq_true rfl) (τ := z_up σ (20, w, i) 3 v) z_upR_o (by rw [z_up, z_upR_s]; rfl) hdg kk
theorem zg_L_first (C : z_C E own cc nL A p s m args meth c) (hs : z_H E A s σ H locs) {w i : Nat} (ha : (20, w, i) ∈ z_ids E) {index : Nat} (hl : Cond.fieldLink own index "LogKeepers$Letter" "first" "I" ∈ z_wl) (hdg : decode cc pc = .ok (.getfield index, 3))
    (kk : W p l e R s m args below meth c H locs cells slots Q (F0 m (pc + 3) ls (.int (σ.1 (20, w, i) 4) :: rest))) : W p l e R s m args below meth c H locs cells slots Q (F0 m pc ls (.ref (z_ad E (20, w, i)) :: rest)) :=
  z_get C hs ha (z_c20 E _ _ _ _) rfl z_iX2 4 (by decide) hl rfl hdg kk
theorem zp_L_first (C : z_C E own cc nL A p s m args meth c) (hs : z_H E A s σ H locs) {w i : Nat} (ha : (20, w, i) ∈ z_ids E) {index : Nat} (hl : Cond.fieldLink own index "LogKeepers$Letter" "first" "I" ∈ z_wl) {v : Int32} (hdg : decode cc pc = .ok (.putfield index, 3))
    (kk : ∀ (H : Heap) (locs : List Loc), z_H E A s (z_up σ (20, w, i) 4 v) H locs → W p l e R s m args below meth c H locs cells slots Q (F0 m (pc + 3) ls rest)) : W p l e R s m args below meth c H locs cells slots Q (F0 m pc ls (.int v :: .ref (z_ad E (20, w, i)) :: rest)) :=
  z_put C hs ha (z_c20 E _ _ _ _) rfl z_iX2 tyX2 tyX2_ok nmX2 4 (by decide) hl rfl (ty := .int) rfl rfl rfl (Nat.le_of_ble_eq_true rfl) (τ := z_up σ (20, w, i) 4 v) z_upR_o (by rw [z_up, z_upR_s]; rfl) hdg kk
theorem zg_L_second (C : z_C E own cc nL A p s m args meth c) (hs : z_H E A s σ H locs) {w i : Nat} (ha : (20, w, i) ∈ z_ids E) {index : Nat} (hl : Cond.fieldLink own index "LogKeepers$Letter" "second" "I" ∈ z_wl) (hdg : decode cc pc = .ok (.getfield index, 3))
    (kk : W p l e R s m args below meth c H locs cells slots Q (F0 m (pc + 3) ls (.int (σ.1 (20, w, i) 5) :: rest))) : W p l e R s m args below meth c H locs cells slots Q (F0 m pc ls (.ref (z_ad E (20, w, i)) :: rest)) :=
  z_get C hs ha (z_c20 E _ _ _ _) rfl z_iX2 5 (by decide) hl rfl hdg kk
theorem zp_L_second (C : z_C E own cc nL A p s m args meth c) (hs : z_H E A s σ H locs) {w i : Nat} (ha : (20, w, i) ∈ z_ids E) {index : Nat} (hl : Cond.fieldLink own index "LogKeepers$Letter" "second" "I" ∈ z_wl) {v : Int32} (hdg : decode cc pc = .ok (.putfield index, 3))
    (kk : ∀ (H : Heap) (locs : List Loc), z_H E A s (z_up σ (20, w, i) 5 v) H locs → W p l e R s m args below meth c H locs cells slots Q (F0 m (pc + 3) ls rest)) : W p l e R s m args below meth c H locs cells slots Q (F0 m pc ls (.int v :: .ref (z_ad E (20, w, i)) :: rest)) :=
  z_put C hs ha (z_c20 E _ _ _ _) rfl z_iX2 tyX2 tyX2_ok nmX2 5 (by decide) hl rfl (ty := .int) rfl rfl rfl (Nat.le_of_ble_eq_true rfl) (τ := z_up σ (20, w, i) 5 v) z_upR_o (by rw [z_up, z_upR_s]; rfl) hdg kk
theorem zg_L_count (C : z_C E own cc nL A p s m args meth c) (hs : z_H E A s σ H locs) {w i : Nat} (ha : (20, w, i) ∈ z_ids E) {index : Nat} (hl : Cond.fieldLink own index "LogKeepers$Letter" "count" "I" ∈ z_wl) (hdg : decode cc pc = .ok (.getfield index, 3))
    (kk : W p l e R s m args below meth c H locs cells slots Q (F0 m (pc + 3) ls (.int (σ.1 (20, w, i) 6) :: rest))) : W p l e R s m args below meth c H locs cells slots Q (F0 m pc ls (.ref (z_ad E (20, w, i)) :: rest)) :=
  z_get C hs ha (z_c20 E _ _ _ _) rfl z_iX2 6 (by decide) hl rfl hdg kk
theorem zp_L_count (C : z_C E own cc nL A p s m args meth c) (hs : z_H E A s σ H locs) {w i : Nat} (ha : (20, w, i) ∈ z_ids E) {index : Nat} (hl : Cond.fieldLink own index "LogKeepers$Letter" "count" "I" ∈ z_wl) {v : Int32} (hdg : decode cc pc = .ok (.putfield index, 3))
    (kk : ∀ (H : Heap) (locs : List Loc), z_H E A s (z_up σ (20, w, i) 6 v) H locs → W p l e R s m args below meth c H locs cells slots Q (F0 m (pc + 3) ls rest)) : W p l e R s m args below meth c H locs cells slots Q (F0 m pc ls (.int v :: .ref (z_ad E (20, w, i)) :: rest)) :=
  z_put C hs ha (z_c20 E _ _ _ _) rfl z_iX2 tyX2 tyX2_ok nmX2 6 (by decide) hl rfl (ty := .int) rfl rfl rfl (Nat.le_of_ble_eq_true rfl) (τ := z_up σ (20, w, i) 6 v) z_upR_o (by rw [z_up, z_upR_s]; rfl) hdg kk
theorem zg_L_done (C : z_C E own cc nL A p s m args meth c) (hs : z_H E A s σ H locs) {w i : Nat} (ha : (20, w, i) ∈ z_ids E) {index : Nat} (hl : Cond.fieldLink own index "LogKeepers$Letter" "done" "I" ∈ z_wl) (hdg : decode cc pc = .ok (.getfield index, 3))
    (kk : W p l e R s m args below meth c H locs cells slots Q (F0 m (pc + 3) ls (.int (σ.1 (20, w, i) 7) :: rest))) : W p l e R s m args below meth c H locs cells slots Q (F0 m pc ls (.ref (z_ad E (20, w, i)) :: rest)) :=
  z_get C hs ha (z_c20 E _ _ _ _) rfl z_iX2 7 (by decide) hl rfl hdg kk
theorem zp_L_done (C : z_C E own cc nL A p s m args meth c) (hs : z_H E A s σ H locs) {w i : Nat} (ha : (20, w, i) ∈ z_ids E) {index : Nat} (hl : Cond.fieldLink own index "LogKeepers$Letter" "done" "I" ∈ z_wl) {v : Int32} (hdg : decode cc pc = .ok (.putfield index, 3))
    (kk : ∀ (H : Heap) (locs : List Loc), z_H E A s (z_up σ (20, w, i) 7 v) H locs → W p l e R s m args below meth c H locs cells slots Q (F0 m (pc + 3) ls rest)) : W p l e R s m args below meth c H locs cells slots Q (F0 m pc ls (.int v :: .ref (z_ad E (20, w, i)) :: rest)) :=
  z_put C hs ha (z_c20 E _ _ _ _) rfl z_iX2 tyX2 tyX2_ok nmX2 7 (by decide) hl rfl (ty := .int) rfl rfl rfl (Nat.le_of_ble_eq_true rfl) (τ := z_up σ (20, w, i) 7 v) z_upR_o (by rw [z_up, z_upR_s]; rfl) hdg kk
theorem zg_L_round (C : z_C E own cc nL A p s m args meth c) (hs : z_H E A s σ H locs) {w i : Nat} (ha : (20, w, i) ∈ z_ids E) {index : Nat} (hl : Cond.fieldLink own index "LogKeepers$Letter" "round" "I" ∈ z_wl) (hdg : decode cc pc = .ok (.getfield index, 3))
    (kk : W p l e R s m args below meth c H locs cells slots Q (F0 m (pc + 3) ls (.int (σ.1 (20, w, i) 8) :: rest))) : W p l e R s m args below meth c H locs cells slots Q (F0 m pc ls (.ref (z_ad E (20, w, i)) :: rest)) :=
  z_get C hs ha (z_c20 E _ _ _ _) rfl z_iX2 8 (by decide) hl rfl hdg kk
theorem zp_L_round (C : z_C E own cc nL A p s m args meth c) (hs : z_H E A s σ H locs) {w i : Nat} (ha : (20, w, i) ∈ z_ids E) {index : Nat} (hl : Cond.fieldLink own index "LogKeepers$Letter" "round" "I" ∈ z_wl) {v : Int32} (hdg : decode cc pc = .ok (.putfield index, 3))
    (kk : ∀ (H : Heap) (locs : List Loc), z_H E A s (z_up σ (20, w, i) 8 v) H locs → W p l e R s m args below meth c H locs cells slots Q (F0 m (pc + 3) ls rest)) : W p l e R s m args below meth c H locs cells slots Q (F0 m pc ls (.int v :: .ref (z_ad E (20, w, i)) :: rest)) :=
  z_put C hs ha (z_c20 E _ _ _ _) rfl z_iX2 tyX2 tyX2_ok nmX2 8 (by decide) hl rfl (ty := .int) rfl rfl rfl (Nat.le_of_ble_eq_true rfl) (τ := z_up σ (20, w, i) 8 v) z_upR_o (by rw [z_up, z_upR_s]; rfl) hdg kk
theorem zg_L_roundTerm (C : z_C E own cc nL A p s m args meth c) (hs : z_H E A s σ H locs) {w i : Nat} (ha : (20, w, i) ∈ z_ids E) {index : Nat} (hl : Cond.fieldLink own index "LogKeepers$Letter" "roundTerm" "I" ∈ z_wl) (hdg : decode cc pc = .ok (.getfield index, 3))
    (kk : W p l e R s m args below meth c H locs cells slots Q (F0 m (pc + 3) ls (.int (σ.1 (20, w, i) 9) :: rest))) : W p l e R s m args below meth c H locs cells slots Q (F0 m pc ls (.ref (z_ad E (20, w, i)) :: rest)) :=
  z_get C hs ha (z_c20 E _ _ _ _) rfl z_iX2 9 (by decide) hl rfl hdg kk
theorem zp_L_roundTerm (C : z_C E own cc nL A p s m args meth c) (hs : z_H E A s σ H locs) {w i : Nat} (ha : (20, w, i) ∈ z_ids E) {index : Nat} (hl : Cond.fieldLink own index "LogKeepers$Letter" "roundTerm" "I" ∈ z_wl) {v : Int32} (hdg : decode cc pc = .ok (.putfield index, 3))
    (kk : ∀ (H : Heap) (locs : List Loc), z_H E A s (z_up σ (20, w, i) 9 v) H locs → W p l e R s m args below meth c H locs cells slots Q (F0 m (pc + 3) ls rest)) : W p l e R s m args below meth c H locs cells slots Q (F0 m pc ls (.int v :: .ref (z_ad E (20, w, i)) :: rest)) :=
  z_put C hs ha (z_c20 E _ _ _ _) rfl z_iX2 tyX2 tyX2_ok nmX2 9 (by decide) hl rfl (ty := .int) rfl rfl rfl (Nat.le_of_ble_eq_true rfl) (τ := z_up σ (20, w, i) 9 v) z_upR_o (by rw [z_up, z_upR_s]; rfl) hdg kk
theorem zg_L_entries (C : z_C E own cc nL A p s m args meth c) (hs : z_H E A s σ H locs) {w i : Nat} (ha : (20, w, i) ∈ z_ids E) {index : Nat} (hl : Cond.fieldLink own index "LogKeepers$Letter" "entries" "[I" ∈ z_wl) (hdg : decode cc pc = .ok (.getfield index, 3))
    (kk : W p l e R s m args below meth c H locs cells slots Q (F0 m (pc + 3) ls (.ref (z_ad E (21, w, i)) :: rest))) : W p l e R s m args below meth c H locs cells slots Q (F0 m pc ls (.ref (z_ad E (20, w, i)) :: rest)) :=
  z_get C hs ha (z_c20 E _ _ _ _) rfl z_iX2 10 (by decide) hl rfl hdg kk
theorem zg_L_fold (C : z_C E own cc nL A p s m args meth c) (hs : z_H E A s σ H locs) {w i : Nat} (ha : (20, w, i) ∈ z_ids E) {index : Nat} (hl : Cond.fieldLink own index "LogKeepers$Letter" "fold" "LLogKeepers$State;" ∈ z_wl) (hdg : decode cc pc = .ok (.getfield index, 3))
    (kk : W p l e R s m args below meth c H locs cells slots Q (F0 m (pc + 3) ls (.ref (z_ad E (22, w, i)) :: rest))) : W p l e R s m args below meth c H locs cells slots Q (F0 m pc ls (.ref (z_ad E (20, w, i)) :: rest)) :=
  z_get C hs ha (z_c20 E _ _ _ _) rfl z_iX2 11 (by decide) hl rfl hdg kk
theorem zg_P_letters (C : z_C E own cc nL A p s m args meth c) (hs : z_H E A s σ H locs) {w : Nat} (ha : (2, w, 0) ∈ z_ids E) {index : Nat} (hl : Cond.fieldLink own index "LogKeepers$Post" "letters" "[LLogKeepers$Letter;" ∈ z_wl) (hdg : decode cc pc = .ok (.getfield index, 3))
    (kk : W p l e R s m args below meth c H locs cells slots Q (F0 m (pc + 3) ls (.ref (z_ad E (3, w, 0)) :: rest))) : W p l e R s m args below meth c H locs cells slots Q (F0 m pc ls (.ref (z_ad E (2, w, 0)) :: rest)) :=
  z_get C hs ha (z_c2 E _ _ _ _) rfl z_iX3 0 (by decide) hl rfl hdg kk
theorem zg_P_hand (C : z_C E own cc nL A p s m args meth c) (hs : z_H E A s σ H locs) {w : Nat} (ha : (2, w, 0) ∈ z_ids E) {index : Nat} (hl : Cond.fieldLink own index "LogKeepers$Post" "hand" "LLogKeepers$Letter;" ∈ z_wl) (hdg : decode cc pc = .ok (.getfield index, 3))
    (kk : W p l e R s m args below meth c H locs cells slots Q (F0 m (pc + 3) ls (.ref (z_ad E (20, w, 40)) :: rest))) : W p l e R s m args below meth c H locs cells slots Q (F0 m pc ls (.ref (z_ad E (2, w, 0)) :: rest)) :=
  z_get C hs ha (z_c2 E _ _ _ _) rfl z_iX3 1 (by decide) hl rfl hdg kk
theorem zg_R_keeper (C : z_C E own cc nL A p s m args meth c) (hs : z_H E A s σ H locs) {w : Nat} (ha : (4, w, 0) ∈ z_ids E) {index : Nat} (hl : Cond.fieldLink own index "LogKeepers$Reads" "keeper" "[I" ∈ z_wl) (hdg : decode cc pc = .ok (.getfield index, 3))
    (kk : W p l e R s m args below meth c H locs cells slots Q (F0 m (pc + 3) ls (.ref (z_ad E (5, w, 0)) :: rest))) : W p l e R s m args below meth c H locs cells slots Q (F0 m pc ls (.ref (z_ad E (4, w, 0)) :: rest)) :=
  z_get C hs ha (z_c4 E _ _ _ _) rfl z_iX4 0 (by decide) hl rfl hdg kk
theorem zg_R_cell (C : z_C E own cc nL A p s m args meth c) (hs : z_H E A s σ H locs) {w : Nat} (ha : (4, w, 0) ∈ z_ids E) {index : Nat} (hl : Cond.fieldLink own index "LogKeepers$Reads" "cell" "[I" ∈ z_wl) (hdg : decode cc pc = .ok (.getfield index, 3))
    (kk : W p l e R s m args below meth c H locs cells slots Q (F0 m (pc + 3) ls (.ref (z_ad E (6, w, 0)) :: rest))) : W p l e R s m args below meth c H locs cells slots Q (F0 m pc ls (.ref (z_ad E (4, w, 0)) :: rest)) :=
  z_get C hs ha (z_c4 E _ _ _ _) rfl z_iX4 1 (by decide) hl rfl hdg kk
theorem zg_R_term (C : z_C E own cc nL A p s m args meth c) (hs : z_H E A s σ H locs) {w : Nat} (ha : (4, w, 0) ∈ z_ids E) {index : Nat} (hl : Cond.fieldLink own index "LogKeepers$Reads" "term" "[I" ∈ z_wl) (hdg : decode cc pc = .ok (.getfield index, 3))
    (kk : W p l e R s m args below meth c H locs cells slots Q (F0 m (pc + 3) ls (.ref (z_ad E (7, w, 0)) :: rest))) : W p l e R s m args below meth c H locs cells slots Q (F0 m pc ls (.ref (z_ad E (4, w, 0)) :: rest)) :=
  z_get C hs ha (z_c4 E _ _ _ _) rfl z_iX4 2 (by decide) hl rfl hdg kk
theorem zg_R_round (C : z_C E own cc nL A p s m args meth c) (hs : z_H E A s σ H locs) {w : Nat} (ha : (4, w, 0) ∈ z_ids E) {index : Nat} (hl : Cond.fieldLink own index "LogKeepers$Reads" "round" "[I" ∈ z_wl) (hdg : decode cc pc = .ok (.getfield index, 3))
    (kk : W p l e R s m args below meth c H locs cells slots Q (F0 m (pc + 3) ls (.ref (z_ad E (8, w, 0)) :: rest))) : W p l e R s m args below meth c H locs cells slots Q (F0 m pc ls (.ref (z_ad E (4, w, 0)) :: rest)) :=
  z_get C hs ha (z_c4 E _ _ _ _) rfl z_iX4 3 (by decide) hl rfl hdg kk
theorem zg_R_size (C : z_C E own cc nL A p s m args meth c) (hs : z_H E A s σ H locs) {w : Nat} (ha : (4, w, 0) ∈ z_ids E) {index : Nat} (hl : Cond.fieldLink own index "LogKeepers$Reads" "size" "I" ∈ z_wl) (hdg : decode cc pc = .ok (.getfield index, 3))
    (kk : W p l e R s m args below meth c H locs cells slots Q (F0 m (pc + 3) ls (.int (σ.1 (4, w, 0) 4) :: rest))) : W p l e R s m args below meth c H locs cells slots Q (F0 m pc ls (.ref (z_ad E (4, w, 0)) :: rest)) :=
  z_get C hs ha (z_c4 E _ _ _ _) rfl z_iX4 4 (by decide) hl rfl hdg kk
theorem zp_R_size (C : z_C E own cc nL A p s m args meth c) (hs : z_H E A s σ H locs) {w : Nat} (ha : (4, w, 0) ∈ z_ids E) {index : Nat} (hl : Cond.fieldLink own index "LogKeepers$Reads" "size" "I" ∈ z_wl) {v : Int32} (hdg : decode cc pc = .ok (.putfield index, 3))
    (kk : ∀ (H : Heap) (locs : List Loc), z_H E A s (z_up σ (4, w, 0) 4 v) H locs → W p l e R s m args below meth c H locs cells slots Q (F0 m (pc + 3) ls rest)) : W p l e R s m args below meth c H locs cells slots Q (F0 m pc ls (.int v :: .ref (z_ad E (4, w, 0)) :: rest)) :=
  z_put C hs ha (z_c4 E _ _ _ _) rfl z_iX4 tyX4 tyX4_ok nmX4 4 (by decide) hl rfl (ty := .int) rfl rfl rfl (Nat.le_of_ble_eq_true rfl) (τ := z_up σ (4, w, 0) 4 v) z_upR_o (by rw [z_up, z_upR_s]; rfl) hdg kk
theorem zg_S_parts (C : z_C E own cc nL A p s m args meth c) (hs : z_H E A s σ H locs) {a : zJ} (hS : z_isS a) (ha : a ∈ z_ids E) {index : Nat} (hl : Cond.fieldLink own index "LogKeepers$State" "parts" "[I" ∈ z_wl) (hdg : decode cc pc = .ok (.getfield index, 3))
    (kk : W p l e R s m args below meth c H locs cells slots Q (F0 m (pc + 3) ls (.ref (z_ad E (z_nx a)) :: rest))) : W p l e R s m args below meth c H locs cells slots Q (F0 m pc ls (.ref (z_ad E a) :: rest)) :=
  z_get C hs ha (z_cS E _ _ hS) rfl z_iX5 0 (by decide) hl rfl hdg kk
theorem zg_T_bytes (C : z_C E own cc nL A p s m args meth c) (hs : z_H E A s σ H locs)  (ha : (31, 0, 0) ∈ z_ids E) {index : Nat} (hl : Cond.fieldLink own index "LogKeepers$Tape" "bytes" "[B" ∈ z_wl) (hdg : decode cc pc = .ok (.getfield index, 3))
    (kk : W p l e R s m args below meth c H locs cells slots Q (F0 m (pc + 3) ls (.ref (z_ad E (32, 0, 0)) :: rest))) : W p l e R s m args below meth c H locs cells slots Q (F0 m pc ls (.ref (z_ad E (31, 0, 0)) :: rest)) :=
  z_get C hs ha (z_c31 E _ _ _ _) rfl z_iX6 0 (by decide) hl rfl hdg kk
theorem zg_T_nameAt (C : z_C E own cc nL A p s m args meth c) (hs : z_H E A s σ H locs)  (ha : (31, 0, 0) ∈ z_ids E) {index : Nat} (hl : Cond.fieldLink own index "LogKeepers$Tape" "nameAt" "[I" ∈ z_wl) (hdg : decode cc pc = .ok (.getfield index, 3))
    (kk : W p l e R s m args below meth c H locs cells slots Q (F0 m (pc + 3) ls (.ref (z_ad E (33, 0, 0)) :: rest))) : W p l e R s m args below meth c H locs cells slots Q (F0 m pc ls (.ref (z_ad E (31, 0, 0)) :: rest)) :=
  z_get C hs ha (z_c31 E _ _ _ _) rfl z_iX6 1 (by decide) hl rfl hdg kk
theorem zg_T_nameLength (C : z_C E own cc nL A p s m args meth c) (hs : z_H E A s σ H locs)  (ha : (31, 0, 0) ∈ z_ids E) {index : Nat} (hl : Cond.fieldLink own index "LogKeepers$Tape" "nameLength" "[I" ∈ z_wl) (hdg : decode cc pc = .ok (.getfield index, 3))
    (kk : W p l e R s m args below meth c H locs cells slots Q (F0 m (pc + 3) ls (.ref (z_ad E (34, 0, 0)) :: rest))) : W p l e R s m args below meth c H locs cells slots Q (F0 m pc ls (.ref (z_ad E (31, 0, 0)) :: rest)) :=
  z_get C hs ha (z_c31 E _ _ _ _) rfl z_iX6 2 (by decide) hl rfl hdg kk
theorem zg_T_silent (C : z_C E own cc nL A p s m args meth c) (hs : z_H E A s σ H locs)  (ha : (31, 0, 0) ∈ z_ids E) {index : Nat} (hl : Cond.fieldLink own index "LogKeepers$Tape" "silent" "[Z" ∈ z_wl) (hdg : decode cc pc = .ok (.getfield index, 3))
    (kk : W p l e R s m args below meth c H locs cells slots Q (F0 m (pc + 3) ls (.ref (z_ad E (35, 0, 0)) :: rest))) : W p l e R s m args below meth c H locs cells slots Q (F0 m pc ls (.ref (z_ad E (31, 0, 0)) :: rest)) :=
  z_get C hs ha (z_c31 E _ _ _ _) rfl z_iX6 3 (by decide) hl rfl hdg kk
theorem zg_T_length (C : z_C E own cc nL A p s m args meth c) (hs : z_H E A s σ H locs)  (ha : (31, 0, 0) ∈ z_ids E) {index : Nat} (hl : Cond.fieldLink own index "LogKeepers$Tape" "length" "I" ∈ z_wl) (hdg : decode cc pc = .ok (.getfield index, 3))
    (kk : W p l e R s m args below meth c H locs cells slots Q (F0 m (pc + 3) ls (.int (σ.1 (31, 0, 0) 4) :: rest))) : W p l e R s m args below meth c H locs cells slots Q (F0 m pc ls (.ref (z_ad E (31, 0, 0)) :: rest)) :=
  z_get C hs ha (z_c31 E _ _ _ _) rfl z_iX6 4 (by decide) hl rfl hdg kk
theorem zp_T_length (C : z_C E own cc nL A p s m args meth c) (hs : z_H E A s σ H locs)  (ha : (31, 0, 0) ∈ z_ids E) {index : Nat} (hl : Cond.fieldLink own index "LogKeepers$Tape" "length" "I" ∈ z_wl) {v : Int32} (hdg : decode cc pc = .ok (.putfield index, 3))
    (kk : ∀ (H : Heap) (locs : List Loc), z_H E A s (z_up σ (31, 0, 0) 4 v) H locs → W p l e R s m args below meth c H locs cells slots Q (F0 m (pc + 3) ls rest)) : W p l e R s m args below meth c H locs cells slots Q (F0 m pc ls (.int v :: .ref (z_ad E (31, 0, 0)) :: rest)) :=
  z_put C hs ha (z_c31 E _ _ _ _) rfl z_iX6 tyX6 tyX6_ok nmX6 4 (by decide) hl rfl (ty := .int) rfl rfl rfl (Nat.le_of_ble_eq_true rfl) (τ := z_up σ (31, 0, 0) 4 v) z_upR_o (by rw [z_up, z_upR_s]; rfl) hdg kk
theorem zg_T_told (C : z_C E own cc nL A p s m args meth c) (hs : z_H E A s σ H locs)  (ha : (31, 0, 0) ∈ z_ids E) {index : Nat} (hl : Cond.fieldLink own index "LogKeepers$Tape" "told" "I" ∈ z_wl) (hdg : decode cc pc = .ok (.getfield index, 3))
    (kk : W p l e R s m args below meth c H locs cells slots Q (F0 m (pc + 3) ls (.int (σ.1 (31, 0, 0) 5) :: rest))) : W p l e R s m args below meth c H locs cells slots Q (F0 m pc ls (.ref (z_ad E (31, 0, 0)) :: rest)) :=
  z_get C hs ha (z_c31 E _ _ _ _) rfl z_iX6 5 (by decide) hl rfl hdg kk
theorem zp_T_told (C : z_C E own cc nL A p s m args meth c) (hs : z_H E A s σ H locs)  (ha : (31, 0, 0) ∈ z_ids E) {index : Nat} (hl : Cond.fieldLink own index "LogKeepers$Tape" "told" "I" ∈ z_wl) {v : Int32} (hdg : decode cc pc = .ok (.putfield index, 3))
    (kk : ∀ (H : Heap) (locs : List Loc), z_H E A s (z_up σ (31, 0, 0) 5 v) H locs → W p l e R s m args below meth c H locs cells slots Q (F0 m (pc + 3) ls rest)) : W p l e R s m args below meth c H locs cells slots Q (F0 m pc ls (.int v :: .ref (z_ad E (31, 0, 0)) :: rest)) :=
  z_put C hs ha (z_c31 E _ _ _ _) rfl z_iX6 tyX6 tyX6_ok nmX6 5 (by decide) hl rfl (ty := .int) rfl rfl rfl (Nat.le_of_ble_eq_true rfl) (τ := z_up σ (31, 0, 0) 5 v) z_upR_o (by rw [z_up, z_upR_s]; rfl) hdg kk
theorem zg_T_fault (C : z_C E own cc nL A p s m args meth c) (hs : z_H E A s σ H locs)  (ha : (31, 0, 0) ∈ z_ids E) {index : Nat} (hl : Cond.fieldLink own index "LogKeepers$Tape" "fault" "I" ∈ z_wl) (hdg : decode cc pc = .ok (.getfield index, 3))
    (kk : W p l e R s m args below meth c H locs cells slots Q (F0 m (pc + 3) ls (.int (σ.1 (31, 0, 0) 6) :: rest))) : W p l e R s m args below meth c H locs cells slots Q (F0 m pc ls (.ref (z_ad E (31, 0, 0)) :: rest)) :=
  z_get C hs ha (z_c31 E _ _ _ _) rfl z_iX6 6 (by decide) hl rfl hdg kk
theorem zp_T_fault (C : z_C E own cc nL A p s m args meth c) (hs : z_H E A s σ H locs)  (ha : (31, 0, 0) ∈ z_ids E) {index : Nat} (hl : Cond.fieldLink own index "LogKeepers$Tape" "fault" "I" ∈ z_wl) {v : Int32} (hdg : decode cc pc = .ok (.putfield index, 3))
    (kk : ∀ (H : Heap) (locs : List Loc), z_H E A s (z_up σ (31, 0, 0) 6 v) H locs → W p l e R s m args below meth c H locs cells slots Q (F0 m (pc + 3) ls rest)) : W p l e R s m args below meth c H locs cells slots Q (F0 m pc ls (.int v :: .ref (z_ad E (31, 0, 0)) :: rest)) :=
  z_put C hs ha (z_c31 E _ _ _ _) rfl z_iX6 tyX6 tyX6_ok nmX6 6 (by decide) hl rfl (ty := .int) rfl rfl rfl (Nat.le_of_ble_eq_true rfl) (τ := z_up σ (31, 0, 0) 6 v) z_upR_o (by rw [z_up, z_upR_s]; rfl) hdg kk
theorem zg_T_faultPlace (C : z_C E own cc nL A p s m args meth c) (hs : z_H E A s σ H locs)  (ha : (31, 0, 0) ∈ z_ids E) {index : Nat} (hl : Cond.fieldLink own index "LogKeepers$Tape" "faultPlace" "I" ∈ z_wl) (hdg : decode cc pc = .ok (.getfield index, 3))
    (kk : W p l e R s m args below meth c H locs cells slots Q (F0 m (pc + 3) ls (.int (σ.1 (31, 0, 0) 7) :: rest))) : W p l e R s m args below meth c H locs cells slots Q (F0 m pc ls (.ref (z_ad E (31, 0, 0)) :: rest)) :=
  z_get C hs ha (z_c31 E _ _ _ _) rfl z_iX6 7 (by decide) hl rfl hdg kk
theorem zp_T_faultPlace (C : z_C E own cc nL A p s m args meth c) (hs : z_H E A s σ H locs)  (ha : (31, 0, 0) ∈ z_ids E) {index : Nat} (hl : Cond.fieldLink own index "LogKeepers$Tape" "faultPlace" "I" ∈ z_wl) {v : Int32} (hdg : decode cc pc = .ok (.putfield index, 3))
    (kk : ∀ (H : Heap) (locs : List Loc), z_H E A s (z_up σ (31, 0, 0) 7 v) H locs → W p l e R s m args below meth c H locs cells slots Q (F0 m (pc + 3) ls rest)) : W p l e R s m args below meth c H locs cells slots Q (F0 m pc ls (.int v :: .ref (z_ad E (31, 0, 0)) :: rest)) :=
  z_put C hs ha (z_c31 E _ _ _ _) rfl z_iX6 tyX6 tyX6_ok nmX6 7 (by decide) hl rfl (ty := .int) rfl rfl rfl (Nat.le_of_ble_eq_true rfl) (τ := z_up σ (31, 0, 0) 7 v) z_upR_o (by rw [z_up, z_upR_s]; rfl) hdg kk
theorem zg_T_tokenAt (C : z_C E own cc nL A p s m args meth c) (hs : z_H E A s σ H locs)  (ha : (31, 0, 0) ∈ z_ids E) {index : Nat} (hl : Cond.fieldLink own index "LogKeepers$Tape" "tokenAt" "I" ∈ z_wl) (hdg : decode cc pc = .ok (.getfield index, 3))
    (kk : W p l e R s m args below meth c H locs cells slots Q (F0 m (pc + 3) ls (.int (σ.1 (31, 0, 0) 8) :: rest))) : W p l e R s m args below meth c H locs cells slots Q (F0 m pc ls (.ref (z_ad E (31, 0, 0)) :: rest)) :=
  z_get C hs ha (z_c31 E _ _ _ _) rfl z_iX6 8 (by decide) hl rfl hdg kk
theorem zp_T_tokenAt (C : z_C E own cc nL A p s m args meth c) (hs : z_H E A s σ H locs)  (ha : (31, 0, 0) ∈ z_ids E) {index : Nat} (hl : Cond.fieldLink own index "LogKeepers$Tape" "tokenAt" "I" ∈ z_wl) {v : Int32} (hdg : decode cc pc = .ok (.putfield index, 3))
    (kk : ∀ (H : Heap) (locs : List Loc), z_H E A s (z_up σ (31, 0, 0) 8 v) H locs → W p l e R s m args below meth c H locs cells slots Q (F0 m (pc + 3) ls rest)) : W p l e R s m args below meth c H locs cells slots Q (F0 m pc ls (.int v :: .ref (z_ad E (31, 0, 0)) :: rest)) :=
  z_put C hs ha (z_c31 E _ _ _ _) rfl z_iX6 tyX6 tyX6_ok nmX6 8 (by decide) hl rfl (ty := .int) rfl rfl rfl (Nat.le_of_ble_eq_true rfl) (τ := z_up σ (31, 0, 0) 8 v) z_upR_o (by rw [z_up, z_upR_s]; rfl) hdg kk
theorem zg_T_tokenEnd (C : z_C E own cc nL A p s m args meth c) (hs : z_H E A s σ H locs)  (ha : (31, 0, 0) ∈ z_ids E) {index : Nat} (hl : Cond.fieldLink own index "LogKeepers$Tape" "tokenEnd" "I" ∈ z_wl) (hdg : decode cc pc = .ok (.getfield index, 3))
    (kk : W p l e R s m args below meth c H locs cells slots Q (F0 m (pc + 3) ls (.int (σ.1 (31, 0, 0) 9) :: rest))) : W p l e R s m args below meth c H locs cells slots Q (F0 m pc ls (.ref (z_ad E (31, 0, 0)) :: rest)) :=
  z_get C hs ha (z_c31 E _ _ _ _) rfl z_iX6 9 (by decide) hl rfl hdg kk
theorem zp_T_tokenEnd (C : z_C E own cc nL A p s m args meth c) (hs : z_H E A s σ H locs)  (ha : (31, 0, 0) ∈ z_ids E) {index : Nat} (hl : Cond.fieldLink own index "LogKeepers$Tape" "tokenEnd" "I" ∈ z_wl) {v : Int32} (hdg : decode cc pc = .ok (.putfield index, 3))
    (kk : ∀ (H : Heap) (locs : List Loc), z_H E A s (z_up σ (31, 0, 0) 9 v) H locs → W p l e R s m args below meth c H locs cells slots Q (F0 m (pc + 3) ls rest)) : W p l e R s m args below meth c H locs cells slots Q (F0 m pc ls (.int v :: .ref (z_ad E (31, 0, 0)) :: rest)) :=
  z_put C hs ha (z_c31 E _ _ _ _) rfl z_iX6 tyX6 tyX6_ok nmX6 9 (by decide) hl rfl (ty := .int) rfl rfl rfl (Nat.le_of_ble_eq_true rfl) (τ := z_up σ (31, 0, 0) 9 v) z_upR_o (by rw [z_up, z_upR_s]; rfl) hdg kk
theorem zg_W_keepers (C : z_C E own cc nL A p s m args meth c) (hs : z_H E A s σ H locs) {w : Nat} (ha : (0, w, 0) ∈ z_ids E) {index : Nat} (hl : Cond.fieldLink own index "LogKeepers$World" "keepers" "[LLogKeepers$Keeper;" ∈ z_wl) (hdg : decode cc pc = .ok (.getfield index, 3))
    (kk : W p l e R s m args below meth c H locs cells slots Q (F0 m (pc + 3) ls (.ref (z_ad E (1, w, 0)) :: rest))) : W p l e R s m args below meth c H locs cells slots Q (F0 m pc ls (.ref (z_ad E (0, w, 0)) :: rest)) :=
  z_get C hs ha (z_c0 E _ _ _ _) rfl z_iX7 0 (by decide) hl rfl hdg kk
theorem zg_W_post (C : z_C E own cc nL A p s m args meth c) (hs : z_H E A s σ H locs) {w : Nat} (ha : (0, w, 0) ∈ z_ids E) {index : Nat} (hl : Cond.fieldLink own index "LogKeepers$World" "post" "LLogKeepers$Post;" ∈ z_wl) (hdg : decode cc pc = .ok (.getfield index, 3))
    (kk : W p l e R s m args below meth c H locs cells slots Q (F0 m (pc + 3) ls (.ref (z_ad E (2, w, 0)) :: rest))) : W p l e R s m args below meth c H locs cells slots Q (F0 m pc ls (.ref (z_ad E (0, w, 0)) :: rest)) :=
  z_get C hs ha (z_c0 E _ _ _ _) rfl z_iX7 1 (by decide) hl rfl hdg kk
theorem zg_W_reads (C : z_C E own cc nL A p s m args meth c) (hs : z_H E A s σ H locs) {w : Nat} (ha : (0, w, 0) ∈ z_ids E) {index : Nat} (hl : Cond.fieldLink own index "LogKeepers$World" "reads" "LLogKeepers$Reads;" ∈ z_wl) (hdg : decode cc pc = .ok (.getfield index, 3))
    (kk : W p l e R s m args below meth c H locs cells slots Q (F0 m (pc + 3) ls (.ref (z_ad E (4, w, 0)) :: rest))) : W p l e R s m args below meth c H locs cells slots Q (F0 m pc ls (.ref (z_ad E (0, w, 0)) :: rest)) :=
  z_get C hs ha (z_c0 E _ _ _ _) rfl z_iX7 2 (by decide) hl rfl hdg kk
theorem zg_W_count (C : z_C E own cc nL A p s m args meth c) (hs : z_H E A s σ H locs) {w : Nat} (ha : (0, w, 0) ∈ z_ids E) {index : Nat} (hl : Cond.fieldLink own index "LogKeepers$World" "count" "I" ∈ z_wl) (hdg : decode cc pc = .ok (.getfield index, 3))
    (kk : W p l e R s m args below meth c H locs cells slots Q (F0 m (pc + 3) ls (.int (σ.1 (0, w, 0) 3) :: rest))) : W p l e R s m args below meth c H locs cells slots Q (F0 m pc ls (.ref (z_ad E (0, w, 0)) :: rest)) :=
  z_get C hs ha (z_c0 E _ _ _ _) rfl z_iX7 3 (by decide) hl rfl hdg kk
theorem zp_W_count (C : z_C E own cc nL A p s m args meth c) (hs : z_H E A s σ H locs) {w : Nat} (ha : (0, w, 0) ∈ z_ids E) {index : Nat} (hl : Cond.fieldLink own index "LogKeepers$World" "count" "I" ∈ z_wl) {v : Int32} (hdg : decode cc pc = .ok (.putfield index, 3))
    (kk : ∀ (H : Heap) (locs : List Loc), z_H E A s (z_up σ (0, w, 0) 3 v) H locs → W p l e R s m args below meth c H locs cells slots Q (F0 m (pc + 3) ls rest)) : W p l e R s m args below meth c H locs cells slots Q (F0 m pc ls (.int v :: .ref (z_ad E (0, w, 0)) :: rest)) :=
  z_put C hs ha (z_c0 E _ _ _ _) rfl z_iX7 tyX7 tyX7_ok nmX7 3 (by decide) hl rfl (ty := .int) rfl rfl rfl (Nat.le_of_ble_eq_true rfl) (τ := z_up σ (0, w, 0) 3 v) z_upR_o (by rw [z_up, z_upR_s]; rfl) hdg kk
theorem zg_W_voters (C : z_C E own cc nL A p s m args meth c) (hs : z_H E A s σ H locs) {w : Nat} (ha : (0, w, 0) ∈ z_ids E) {index : Nat} (hl : Cond.fieldLink own index "LogKeepers$World" "voters" "I" ∈ z_wl) (hdg : decode cc pc = .ok (.getfield index, 3))
    (kk : W p l e R s m args below meth c H locs cells slots Q (F0 m (pc + 3) ls (.int (σ.1 (0, w, 0) 4) :: rest))) : W p l e R s m args below meth c H locs cells slots Q (F0 m pc ls (.ref (z_ad E (0, w, 0)) :: rest)) :=
  z_get C hs ha (z_c0 E _ _ _ _) rfl z_iX7 4 (by decide) hl rfl hdg kk
theorem zp_W_voters (C : z_C E own cc nL A p s m args meth c) (hs : z_H E A s σ H locs) {w : Nat} (ha : (0, w, 0) ∈ z_ids E) {index : Nat} (hl : Cond.fieldLink own index "LogKeepers$World" "voters" "I" ∈ z_wl) {v : Int32} (hdg : decode cc pc = .ok (.putfield index, 3))
    (kk : ∀ (H : Heap) (locs : List Loc), z_H E A s (z_up σ (0, w, 0) 4 v) H locs → W p l e R s m args below meth c H locs cells slots Q (F0 m (pc + 3) ls rest)) : W p l e R s m args below meth c H locs cells slots Q (F0 m pc ls (.int v :: .ref (z_ad E (0, w, 0)) :: rest)) :=
  z_put C hs ha (z_c0 E _ _ _ _) rfl z_iX7 tyX7 tyX7_ok nmX7 4 (by decide) hl rfl (ty := .int) rfl rfl rfl (Nat.le_of_ble_eq_true rfl) (τ := z_up σ (0, w, 0) 4 v) z_upR_o (by rw [z_up, z_upR_s]; rfl) hdg kk
theorem zg_X_tape (C : z_C E own cc nL A p s m args meth c) (hs : z_H E A s σ H locs)  (ha : (30, 0, 0) ∈ z_ids E) {index : Nat} (hl : Cond.fieldLink own index "LogKeepers" "tape" "LLogKeepers$Tape;" ∈ z_wl) (hdg : decode cc pc = .ok (.getfield index, 3))
    (kk : W p l e R s m args below meth c H locs cells slots Q (F0 m (pc + 3) ls (.ref (z_ad E (31, 0, 0)) :: rest))) : W p l e R s m args below meth c H locs cells slots Q (F0 m pc ls (.ref (z_ad E (30, 0, 0)) :: rest)) :=
  z_get C hs ha (z_c30 E _ _ _ _) rfl z_iX8 0 (by decide) hl rfl hdg kk
theorem zg_X_world (C : z_C E own cc nL A p s m args meth c) (hs : z_H E A s σ H locs)  (ha : (30, 0, 0) ∈ z_ids E) {index : Nat} (hl : Cond.fieldLink own index "LogKeepers" "world" "LLogKeepers$World;" ∈ z_wl) (hdg : decode cc pc = .ok (.getfield index, 3))
    (kk : W p l e R s m args below meth c H locs cells slots Q (F0 m (pc + 3) ls (.ref (z_ad E (0, 0, 0)) :: rest))) : W p l e R s m args below meth c H locs cells slots Q (F0 m pc ls (.ref (z_ad E (30, 0, 0)) :: rest)) :=
  z_get C hs ha (z_c30 E _ _ _ _) rfl z_iX8 1 (by decide) hl rfl hdg kk
theorem zg_X_boxes (C : z_C E own cc nL A p s m args meth c) (hs : z_H E A s σ H locs)  (ha : (30, 0, 0) ∈ z_ids E) {index : Nat} (hl : Cond.fieldLink own index "LogKeepers" "boxes" "[LLogKeepers$World;" ∈ z_wl) (hdg : decode cc pc = .ok (.getfield index, 3))
    (kk : W p l e R s m args below meth c H locs cells slots Q (F0 m (pc + 3) ls (.ref (z_ad E (36, 0, 0)) :: rest))) : W p l e R s m args below meth c H locs cells slots Q (F0 m pc ls (.ref (z_ad E (30, 0, 0)) :: rest)) :=
  z_get C hs ha (z_c30 E _ _ _ _) rfl z_iX8 2 (by decide) hl rfl hdg kk
theorem zg_X_kept (C : z_C E own cc nL A p s m args meth c) (hs : z_H E A s σ H locs)  (ha : (30, 0, 0) ∈ z_ids E) {index : Nat} (hl : Cond.fieldLink own index "LogKeepers" "kept" "[Z" ∈ z_wl) (hdg : decode cc pc = .ok (.getfield index, 3))
    (kk : W p l e R s m args below meth c H locs cells slots Q (F0 m (pc + 3) ls (.ref (z_ad E (37, 0, 0)) :: rest))) : W p l e R s m args below meth c H locs cells slots Q (F0 m pc ls (.ref (z_ad E (30, 0, 0)) :: rest)) :=
  z_get C hs ha (z_c30 E _ _ _ _) rfl z_iX8 3 (by decide) hl rfl hdg kk
theorem zg_X_history (C : z_C E own cc nL A p s m args meth c) (hs : z_H E A s σ H locs)  (ha : (30, 0, 0) ∈ z_ids E) {index : Nat} (hl : Cond.fieldLink own index "LogKeepers" "history" "LLogKeepers$History;" ∈ z_wl) (hdg : decode cc pc = .ok (.getfield index, 3))
    (kk : W p l e R s m args below meth c H locs cells slots Q (F0 m (pc + 3) ls (.ref (z_ad E (40, 0, 0)) :: rest))) : W p l e R s m args below meth c H locs cells slots Q (F0 m pc ls (.ref (z_ad E (30, 0, 0)) :: rest)) :=
  z_get C hs ha (z_c30 E _ _ _ _) rfl z_iX8 4 (by decide) hl rfl hdg kk
theorem zg_M_tape (C : z_C E own cc nL A p s m args meth c) (hs : z_H E A s σ H locs)  (ha : (100, 0, 0) ∈ z_ids E) {index : Nat} (hl : Cond.fieldLink own index "LogKeepersModel" "tape" "[B" ∈ z_wl) (hdg : decode cc pc = .ok (.getfield index, 3))
    (kk : W p l e R s m args below meth c H locs cells slots Q (F0 m (pc + 3) ls (.ref (z_ad E (101, 0, 0)) :: rest))) : W p l e R s m args below meth c H locs cells slots Q (F0 m pc ls (.ref (z_ad E (100, 0, 0)) :: rest)) :=
  z_get C hs ha (z_c100 E _ _ _ _) rfl z_iX9 0 (by decide) hl rfl hdg kk
theorem zg_M_text (C : z_C E own cc nL A p s m args meth c) (hs : z_H E A s σ H locs)  (ha : (100, 0, 0) ∈ z_ids E) {index : Nat} (hl : Cond.fieldLink own index "LogKeepersModel" "text" "[B" ∈ z_wl) (hdg : decode cc pc = .ok (.getfield index, 3))
    (kk : W p l e R s m args below meth c H locs cells slots Q (F0 m (pc + 3) ls (.ref (z_ad E (102, 0, 0)) :: rest))) : W p l e R s m args below meth c H locs cells slots Q (F0 m pc ls (.ref (z_ad E (100, 0, 0)) :: rest)) :=
  z_get C hs ha (z_c100 E _ _ _ _) rfl z_iX9 1 (by decide) hl rfl hdg kk
theorem zg_M_all (C : z_C E own cc nL A p s m args meth c) (hs : z_H E A s σ H locs)  (ha : (100, 0, 0) ∈ z_ids E) {index : Nat} (hl : Cond.fieldLink own index "LogKeepersModel" "all" "[I" ∈ z_wl) (hdg : decode cc pc = .ok (.getfield index, 3))
    (kk : W p l e R s m args below meth c H locs cells slots Q (F0 m (pc + 3) ls (.ref (z_ad E (103, 0, 0)) :: rest))) : W p l e R s m args below meth c H locs cells slots Q (F0 m pc ls (.ref (z_ad E (100, 0, 0)) :: rest)) :=
  z_get C hs ha (z_c100 E _ _ _ _) rfl z_iX9 2 (by decide) hl rfl hdg kk
theorem zg_M_boxes (C : z_C E own cc nL A p s m args meth c) (hs : z_H E A s σ H locs)  (ha : (100, 0, 0) ∈ z_ids E) {index : Nat} (hl : Cond.fieldLink own index "LogKeepersModel" "boxes" "[I" ∈ z_wl) (hdg : decode cc pc = .ok (.getfield index, 3))
    (kk : W p l e R s m args below meth c H locs cells slots Q (F0 m (pc + 3) ls (.ref (z_ad E (104, 0, 0)) :: rest))) : W p l e R s m args below meth c H locs cells slots Q (F0 m pc ls (.ref (z_ad E (100, 0, 0)) :: rest)) :=
  z_get C hs ha (z_c100 E _ _ _ _) rfl z_iX9 3 (by decide) hl rfl hdg kk
theorem zg_M_isBoxed (C : z_C E own cc nL A p s m args meth c) (hs : z_H E A s σ H locs)  (ha : (100, 0, 0) ∈ z_ids E) {index : Nat} (hl : Cond.fieldLink own index "LogKeepersModel" "isBoxed" "[Z" ∈ z_wl) (hdg : decode cc pc = .ok (.getfield index, 3))
    (kk : W p l e R s m args below meth c H locs cells slots Q (F0 m (pc + 3) ls (.ref (z_ad E (105, 0, 0)) :: rest))) : W p l e R s m args below meth c H locs cells slots Q (F0 m pc ls (.ref (z_ad E (100, 0, 0)) :: rest)) :=
  z_get C hs ha (z_c100 E _ _ _ _) rfl z_iX9 4 (by decide) hl rfl hdg kk
theorem zg_M_taped (C : z_C E own cc nL A p s m args meth c) (hs : z_H E A s σ H locs)  (ha : (100, 0, 0) ∈ z_ids E) {index : Nat} (hl : Cond.fieldLink own index "LogKeepersModel" "taped" "I" ∈ z_wl) (hdg : decode cc pc = .ok (.getfield index, 3))
    (kk : W p l e R s m args below meth c H locs cells slots Q (F0 m (pc + 3) ls (.int (σ.1 (100, 0, 0) 5) :: rest))) : W p l e R s m args below meth c H locs cells slots Q (F0 m pc ls (.ref (z_ad E (100, 0, 0)) :: rest)) :=
  z_get C hs ha (z_c100 E _ _ _ _) rfl z_iX9 5 (by decide) hl rfl hdg kk
theorem zp_M_taped (C : z_C E own cc nL A p s m args meth c) (hs : z_H E A s σ H locs)  (ha : (100, 0, 0) ∈ z_ids E) {index : Nat} (hl : Cond.fieldLink own index "LogKeepersModel" "taped" "I" ∈ z_wl) {v : Int32} (hdg : decode cc pc = .ok (.putfield index, 3))
    (kk : ∀ (H : Heap) (locs : List Loc), z_H E A s (z_up σ (100, 0, 0) 5 v) H locs → W p l e R s m args below meth c H locs cells slots Q (F0 m (pc + 3) ls rest)) : W p l e R s m args below meth c H locs cells slots Q (F0 m pc ls (.int v :: .ref (z_ad E (100, 0, 0)) :: rest)) :=
  z_put C hs ha (z_c100 E _ _ _ _) rfl z_iX9 tyX9 tyX9_ok nmX9 5 (by decide) hl rfl (ty := .int) rfl rfl rfl (Nat.le_of_ble_eq_true rfl) (τ := z_up σ (100, 0, 0) 5 v) z_upR_o (by rw [z_up, z_upR_s]; rfl) hdg kk
theorem zg_M_size (C : z_C E own cc nL A p s m args meth c) (hs : z_H E A s σ H locs)  (ha : (100, 0, 0) ∈ z_ids E) {index : Nat} (hl : Cond.fieldLink own index "LogKeepersModel" "size" "I" ∈ z_wl) (hdg : decode cc pc = .ok (.getfield index, 3))
    (kk : W p l e R s m args below meth c H locs cells slots Q (F0 m (pc + 3) ls (.int (σ.1 (100, 0, 0) 6) :: rest))) : W p l e R s m args below meth c H locs cells slots Q (F0 m pc ls (.ref (z_ad E (100, 0, 0)) :: rest)) :=
  z_get C hs ha (z_c100 E _ _ _ _) rfl z_iX9 6 (by decide) hl rfl hdg kk
theorem zp_M_size (C : z_C E own cc nL A p s m args meth c) (hs : z_H E A s σ H locs)  (ha : (100, 0, 0) ∈ z_ids E) {index : Nat} (hl : Cond.fieldLink own index "LogKeepersModel" "size" "I" ∈ z_wl) {v : Int32} (hdg : decode cc pc = .ok (.putfield index, 3))
    (kk : ∀ (H : Heap) (locs : List Loc), z_H E A s (z_up σ (100, 0, 0) 6 v) H locs → W p l e R s m args below meth c H locs cells slots Q (F0 m (pc + 3) ls rest)) : W p l e R s m args below meth c H locs cells slots Q (F0 m pc ls (.int v :: .ref (z_ad E (100, 0, 0)) :: rest)) :=
  z_put C hs ha (z_c100 E _ _ _ _) rfl z_iX9 tyX9 tyX9_ok nmX9 6 (by decide) hl rfl (ty := .int) rfl rfl rfl (Nat.le_of_ble_eq_true rfl) (τ := z_up σ (100, 0, 0) 6 v) z_upR_o (by rw [z_up, z_upR_s]; rfl) hdg kk
theorem zg_M_faultKind (C : z_C E own cc nL A p s m args meth c) (hs : z_H E A s σ H locs)  (ha : (100, 0, 0) ∈ z_ids E) {index : Nat} (hl : Cond.fieldLink own index "LogKeepersModel" "faultKind" "I" ∈ z_wl) (hdg : decode cc pc = .ok (.getfield index, 3))
    (kk : W p l e R s m args below meth c H locs cells slots Q (F0 m (pc + 3) ls (.int (σ.1 (100, 0, 0) 7) :: rest))) : W p l e R s m args below meth c H locs cells slots Q (F0 m pc ls (.ref (z_ad E (100, 0, 0)) :: rest)) :=
  z_get C hs ha (z_c100 E _ _ _ _) rfl z_iX9 7 (by decide) hl rfl hdg kk
theorem zp_M_faultKind (C : z_C E own cc nL A p s m args meth c) (hs : z_H E A s σ H locs)  (ha : (100, 0, 0) ∈ z_ids E) {index : Nat} (hl : Cond.fieldLink own index "LogKeepersModel" "faultKind" "I" ∈ z_wl) {v : Int32} (hdg : decode cc pc = .ok (.putfield index, 3))
    (kk : ∀ (H : Heap) (locs : List Loc), z_H E A s (z_up σ (100, 0, 0) 7 v) H locs → W p l e R s m args below meth c H locs cells slots Q (F0 m (pc + 3) ls rest)) : W p l e R s m args below meth c H locs cells slots Q (F0 m pc ls (.int v :: .ref (z_ad E (100, 0, 0)) :: rest)) :=
  z_put C hs ha (z_c100 E _ _ _ _) rfl z_iX9 tyX9 tyX9_ok nmX9 7 (by decide) hl rfl (ty := .int) rfl rfl rfl (Nat.le_of_ble_eq_true rfl) (τ := z_up σ (100, 0, 0) 7 v) z_upR_o (by rw [z_up, z_upR_s]; rfl) hdg kk
theorem zg_M_faultPlace (C : z_C E own cc nL A p s m args meth c) (hs : z_H E A s σ H locs)  (ha : (100, 0, 0) ∈ z_ids E) {index : Nat} (hl : Cond.fieldLink own index "LogKeepersModel" "faultPlace" "I" ∈ z_wl) (hdg : decode cc pc = .ok (.getfield index, 3))
    (kk : W p l e R s m args below meth c H locs cells slots Q (F0 m (pc + 3) ls (.int (σ.1 (100, 0, 0) 8) :: rest))) : W p l e R s m args below meth c H locs cells slots Q (F0 m pc ls (.ref (z_ad E (100, 0, 0)) :: rest)) :=
  z_get C hs ha (z_c100 E _ _ _ _) rfl z_iX9 8 (by decide) hl rfl hdg kk
theorem zp_M_faultPlace (C : z_C E own cc nL A p s m args meth c) (hs : z_H E A s σ H locs)  (ha : (100, 0, 0) ∈ z_ids E) {index : Nat} (hl : Cond.fieldLink own index "LogKeepersModel" "faultPlace" "I" ∈ z_wl) {v : Int32} (hdg : decode cc pc = .ok (.putfield index, 3))
    (kk : ∀ (H : Heap) (locs : List Loc), z_H E A s (z_up σ (100, 0, 0) 8 v) H locs → W p l e R s m args below meth c H locs cells slots Q (F0 m (pc + 3) ls rest)) : W p l e R s m args below meth c H locs cells slots Q (F0 m pc ls (.int v :: .ref (z_ad E (100, 0, 0)) :: rest)) :=
  z_put C hs ha (z_c100 E _ _ _ _) rfl z_iX9 tyX9 tyX9_ok nmX9 8 (by decide) hl rfl (ty := .int) rfl rfl rfl (Nat.le_of_ble_eq_true rfl) (τ := z_up σ (100, 0, 0) 8 v) z_upR_o (by rw [z_up, z_upR_s]; rfl) hdg kk
theorem zg_M_keepers (C : z_C E own cc nL A p s m args meth c) (hs : z_H E A s σ H locs)  (ha : (100, 0, 0) ∈ z_ids E) {index : Nat} (hl : Cond.fieldLink own index "LogKeepersModel" "keepers" "[I" ∈ z_wl) (hdg : decode cc pc = .ok (.getfield index, 3))
    (kk : W p l e R s m args below meth c H locs cells slots Q (F0 m (pc + 3) ls (.ref (z_ad E (106, 0, 0)) :: rest))) : W p l e R s m args below meth c H locs cells slots Q (F0 m pc ls (.ref (z_ad E (100, 0, 0)) :: rest)) :=
  z_get C hs ha (z_c100 E _ _ _ _) rfl z_iX9 9 (by decide) hl rfl hdg kk
theorem zg_M_silent (C : z_C E own cc nL A p s m args meth c) (hs : z_H E A s σ H locs)  (ha : (100, 0, 0) ∈ z_ids E) {index : Nat} (hl : Cond.fieldLink own index "LogKeepersModel" "silent" "[I" ∈ z_wl) (hdg : decode cc pc = .ok (.getfield index, 3))
    (kk : W p l e R s m args below meth c H locs cells slots Q (F0 m (pc + 3) ls (.ref (z_ad E (107, 0, 0)) :: rest))) : W p l e R s m args below meth c H locs cells slots Q (F0 m pc ls (.ref (z_ad E (100, 0, 0)) :: rest)) :=
  z_get C hs ha (z_c100 E _ _ _ _) rfl z_iX9 10 (by decide) hl rfl hdg kk
theorem zg_M_kName (C : z_C E own cc nL A p s m args meth c) (hs : z_H E A s σ H locs)  (ha : (100, 0, 0) ∈ z_ids E) {index : Nat} (hl : Cond.fieldLink own index "LogKeepersModel" "kName" "[J" ∈ z_wl) (hdg : decode cc pc = .ok (.getfield index, 3))
    (kk : W p l e R s m args below meth c H locs cells slots Q (F0 m (pc + 3) ls (.ref (z_ad E (108, 0, 0)) :: rest))) : W p l e R s m args below meth c H locs cells slots Q (F0 m pc ls (.ref (z_ad E (100, 0, 0)) :: rest)) :=
  z_get C hs ha (z_c100 E _ _ _ _) rfl z_iX9 11 (by decide) hl rfl hdg kk
theorem zg_M_bank (C : z_C E own cc nL A p s m args meth c) (hs : z_H E A s σ H locs)  (ha : (100, 0, 0) ∈ z_ids E) {index : Nat} (hl : Cond.fieldLink own index "LogKeepersModel" "bank" "I" ∈ z_wl) (hdg : decode cc pc = .ok (.getfield index, 3))
    (kk : W p l e R s m args below meth c H locs cells slots Q (F0 m (pc + 3) ls (.int (σ.1 (100, 0, 0) 12) :: rest))) : W p l e R s m args below meth c H locs cells slots Q (F0 m pc ls (.ref (z_ad E (100, 0, 0)) :: rest)) :=
  z_get C hs ha (z_c100 E _ _ _ _) rfl z_iX9 12 (by decide) hl rfl hdg kk
theorem zp_M_bank (C : z_C E own cc nL A p s m args meth c) (hs : z_H E A s σ H locs)  (ha : (100, 0, 0) ∈ z_ids E) {index : Nat} (hl : Cond.fieldLink own index "LogKeepersModel" "bank" "I" ∈ z_wl) {v : Int32} (hdg : decode cc pc = .ok (.putfield index, 3))
    (kk : ∀ (H : Heap) (locs : List Loc), z_H E A s (z_up σ (100, 0, 0) 12 v) H locs → W p l e R s m args below meth c H locs cells slots Q (F0 m (pc + 3) ls rest)) : W p l e R s m args below meth c H locs cells slots Q (F0 m pc ls (.int v :: .ref (z_ad E (100, 0, 0)) :: rest)) :=
  z_put C hs ha (z_c100 E _ _ _ _) rfl z_iX9 tyX9 tyX9_ok nmX9 12 (by decide) hl rfl (ty := .int) rfl rfl rfl (Nat.le_of_ble_eq_true rfl) (τ := z_up σ (100, 0, 0) 12 v) z_upR_o (by rw [z_up, z_upR_s]; rfl) hdg kk
theorem zg_M_rb (C : z_C E own cc nL A p s m args meth c) (hs : z_H E A s σ H locs)  (ha : (100, 0, 0) ∈ z_ids E) {index : Nat} (hl : Cond.fieldLink own index "LogKeepersModel" "rb" "I" ∈ z_wl) (hdg : decode cc pc = .ok (.getfield index, 3))
    (kk : W p l e R s m args below meth c H locs cells slots Q (F0 m (pc + 3) ls (.int (σ.1 (100, 0, 0) 13) :: rest))) : W p l e R s m args below meth c H locs cells slots Q (F0 m pc ls (.ref (z_ad E (100, 0, 0)) :: rest)) :=
  z_get C hs ha (z_c100 E _ _ _ _) rfl z_iX9 13 (by decide) hl rfl hdg kk
theorem zp_M_rb (C : z_C E own cc nL A p s m args meth c) (hs : z_H E A s σ H locs)  (ha : (100, 0, 0) ∈ z_ids E) {index : Nat} (hl : Cond.fieldLink own index "LogKeepersModel" "rb" "I" ∈ z_wl) {v : Int32} (hdg : decode cc pc = .ok (.putfield index, 3))
    (kk : ∀ (H : Heap) (locs : List Loc), z_H E A s (z_up σ (100, 0, 0) 13 v) H locs → W p l e R s m args below meth c H locs cells slots Q (F0 m (pc + 3) ls rest)) : W p l e R s m args below meth c H locs cells slots Q (F0 m pc ls (.int v :: .ref (z_ad E (100, 0, 0)) :: rest)) :=
  z_put C hs ha (z_c100 E _ _ _ _) rfl z_iX9 tyX9 tyX9_ok nmX9 13 (by decide) hl rfl (ty := .int) rfl rfl rfl (Nat.le_of_ble_eq_true rfl) (τ := z_up σ (100, 0, 0) 13 v) z_upR_o (by rw [z_up, z_upR_s]; rfl) hdg kk
theorem zg_M_at (C : z_C E own cc nL A p s m args meth c) (hs : z_H E A s σ H locs)  (ha : (100, 0, 0) ∈ z_ids E) {index : Nat} (hl : Cond.fieldLink own index "LogKeepersModel" "at" "I" ∈ z_wl) (hdg : decode cc pc = .ok (.getfield index, 3))
    (kk : W p l e R s m args below meth c H locs cells slots Q (F0 m (pc + 3) ls (.int (σ.1 (100, 0, 0) 14) :: rest))) : W p l e R s m args below meth c H locs cells slots Q (F0 m pc ls (.ref (z_ad E (100, 0, 0)) :: rest)) :=
  z_get C hs ha (z_c100 E _ _ _ _) rfl z_iX9 14 (by decide) hl rfl hdg kk
theorem zp_M_at (C : z_C E own cc nL A p s m args meth c) (hs : z_H E A s σ H locs)  (ha : (100, 0, 0) ∈ z_ids E) {index : Nat} (hl : Cond.fieldLink own index "LogKeepersModel" "at" "I" ∈ z_wl) {v : Int32} (hdg : decode cc pc = .ok (.putfield index, 3))
    (kk : ∀ (H : Heap) (locs : List Loc), z_H E A s (z_up σ (100, 0, 0) 14 v) H locs → W p l e R s m args below meth c H locs cells slots Q (F0 m (pc + 3) ls rest)) : W p l e R s m args below meth c H locs cells slots Q (F0 m pc ls (.int v :: .ref (z_ad E (100, 0, 0)) :: rest)) :=
  z_put C hs ha (z_c100 E _ _ _ _) rfl z_iX9 tyX9 tyX9_ok nmX9 14 (by decide) hl rfl (ty := .int) rfl rfl rfl (Nat.le_of_ble_eq_true rfl) (τ := z_up σ (100, 0, 0) 14 v) z_upR_o (by rw [z_up, z_upR_s]; rfl) hdg kk
theorem zg_M_end (C : z_C E own cc nL A p s m args meth c) (hs : z_H E A s σ H locs)  (ha : (100, 0, 0) ∈ z_ids E) {index : Nat} (hl : Cond.fieldLink own index "LogKeepersModel" "end" "I" ∈ z_wl) (hdg : decode cc pc = .ok (.getfield index, 3))
    (kk : W p l e R s m args below meth c H locs cells slots Q (F0 m (pc + 3) ls (.int (σ.1 (100, 0, 0) 15) :: rest))) : W p l e R s m args below meth c H locs cells slots Q (F0 m pc ls (.ref (z_ad E (100, 0, 0)) :: rest)) :=
  z_get C hs ha (z_c100 E _ _ _ _) rfl z_iX9 15 (by decide) hl rfl hdg kk
theorem zp_M_end (C : z_C E own cc nL A p s m args meth c) (hs : z_H E A s σ H locs)  (ha : (100, 0, 0) ∈ z_ids E) {index : Nat} (hl : Cond.fieldLink own index "LogKeepersModel" "end" "I" ∈ z_wl) {v : Int32} (hdg : decode cc pc = .ok (.putfield index, 3))
    (kk : ∀ (H : Heap) (locs : List Loc), z_H E A s (z_up σ (100, 0, 0) 15 v) H locs → W p l e R s m args below meth c H locs cells slots Q (F0 m (pc + 3) ls rest)) : W p l e R s m args below meth c H locs cells slots Q (F0 m pc ls (.int v :: .ref (z_ad E (100, 0, 0)) :: rest)) :=
  z_put C hs ha (z_c100 E _ _ _ _) rfl z_iX9 tyX9 tyX9_ok nmX9 15 (by decide) hl rfl (ty := .int) rfl rfl rfl (Nat.le_of_ble_eq_true rfl) (τ := z_up σ (100, 0, 0) 15 v) z_upR_o (by rw [z_up, z_upR_s]; rfl) hdg kk
theorem zg_M_token (C : z_C E own cc nL A p s m args meth c) (hs : z_H E A s σ H locs)  (ha : (100, 0, 0) ∈ z_ids E) {index : Nat} (hl : Cond.fieldLink own index "LogKeepersModel" "token" "I" ∈ z_wl) (hdg : decode cc pc = .ok (.getfield index, 3))
    (kk : W p l e R s m args below meth c H locs cells slots Q (F0 m (pc + 3) ls (.int (σ.1 (100, 0, 0) 16) :: rest))) : W p l e R s m args below meth c H locs cells slots Q (F0 m pc ls (.ref (z_ad E (100, 0, 0)) :: rest)) :=
  z_get C hs ha (z_c100 E _ _ _ _) rfl z_iX9 16 (by decide) hl rfl hdg kk
theorem zp_M_token (C : z_C E own cc nL A p s m args meth c) (hs : z_H E A s σ H locs)  (ha : (100, 0, 0) ∈ z_ids E) {index : Nat} (hl : Cond.fieldLink own index "LogKeepersModel" "token" "I" ∈ z_wl) {v : Int32} (hdg : decode cc pc = .ok (.putfield index, 3))
    (kk : ∀ (H : Heap) (locs : List Loc), z_H E A s (z_up σ (100, 0, 0) 16 v) H locs → W p l e R s m args below meth c H locs cells slots Q (F0 m (pc + 3) ls rest)) : W p l e R s m args below meth c H locs cells slots Q (F0 m pc ls (.int v :: .ref (z_ad E (100, 0, 0)) :: rest)) :=
  z_put C hs ha (z_c100 E _ _ _ _) rfl z_iX9 tyX9 tyX9_ok nmX9 16 (by decide) hl rfl (ty := .int) rfl rfl rfl (Nat.le_of_ble_eq_true rfl) (τ := z_up σ (100, 0, 0) 16 v) z_upR_o (by rw [z_up, z_upR_s]; rfl) hdg kk
theorem zg_M_name (C : z_C E own cc nL A p s m args meth c) (hs : z_H E A s σ H locs)  (ha : (100, 0, 0) ∈ z_ids E) {index : Nat} (hl : Cond.fieldLink own index "LogKeepersModel" "name" "J" ∈ z_wl) (hdg : decode cc pc = .ok (.getfield index, 3))
    (kk : W p l e R s m args below meth c H locs cells slots Q (F0 m (pc + 3) ls (.long (σ.2 (100, 0, 0) 17) :: rest))) : W p l e R s m args below meth c H locs cells slots Q (F0 m pc ls (.ref (z_ad E (100, 0, 0)) :: rest)) :=
  z_get C hs ha (z_c100 E _ _ _ _) rfl z_iX9 17 (by decide) hl rfl hdg kk
theorem zp_M_name (C : z_C E own cc nL A p s m args meth c) (hs : z_H E A s σ H locs)  (ha : (100, 0, 0) ∈ z_ids E) {index : Nat} (hl : Cond.fieldLink own index "LogKeepersModel" "name" "J" ∈ z_wl) {v : Int64} (hdg : decode cc pc = .ok (.putfield index, 3))
    (kk : ∀ (H : Heap) (locs : List Loc), z_H E A s (z_upl σ (100, 0, 0) 17 v) H locs → W p l e R s m args below meth c H locs cells slots Q (F0 m (pc + 3) ls rest)) : W p l e R s m args below meth c H locs cells slots Q (F0 m pc ls (.long v :: .ref (z_ad E (100, 0, 0)) :: rest)) :=
  z_put C hs ha (z_c100 E _ _ _ _) rfl z_iX9 tyX9 tyX9_ok nmX9 17 (by decide) hl rfl (ty := .long) rfl rfl rfl (Nat.le_of_ble_eq_true rfl) (τ := z_upl σ (100, 0, 0) 17 v) z_upH_o (by rw [z_upl, z_upH_s]; rfl) hdg kk
theorem zg_M_letter (C : z_C E own cc nL A p s m args meth c) (hs : z_H E A s σ H locs)  (ha : (100, 0, 0) ∈ z_ids E) {index : Nat} (hl : Cond.fieldLink own index "LogKeepersModel" "letter" "[I" ∈ z_wl) (hdg : decode cc pc = .ok (.getfield index, 3))
    (kk : W p l e R s m args below meth c H locs cells slots Q (F0 m (pc + 3) ls (.ref (z_ad E (109, 0, 0)) :: rest))) : W p l e R s m args below meth c H locs cells slots Q (F0 m pc ls (.ref (z_ad E (100, 0, 0)) :: rest)) :=
  z_get C hs ha (z_c100 E _ _ _ _) rfl z_iX9 18 (by decide) hl rfl hdg kk
theorem zg_M_nBegun (C : z_C E own cc nL A p s m args meth c) (hs : z_H E A s σ H locs)  (ha : (100, 0, 0) ∈ z_ids E) {index : Nat} (hl : Cond.fieldLink own index "LogKeepersModel" "nBegun" "[I" ∈ z_wl) (hdg : decode cc pc = .ok (.getfield index, 3))
    (kk : W p l e R s m args below meth c H locs cells slots Q (F0 m (pc + 3) ls (.ref (z_ad E (110, 0, 0)) :: rest))) : W p l e R s m args below meth c H locs cells slots Q (F0 m pc ls (.ref (z_ad E (100, 0, 0)) :: rest)) :=
  z_get C hs ha (z_c100 E _ _ _ _) rfl z_iX9 19 (by decide) hl rfl hdg kk
theorem zg_M_nEnded (C : z_C E own cc nL A p s m args meth c) (hs : z_H E A s σ H locs)  (ha : (100, 0, 0) ∈ z_ids E) {index : Nat} (hl : Cond.fieldLink own index "LogKeepersModel" "nEnded" "[I" ∈ z_wl) (hdg : decode cc pc = .ok (.getfield index, 3))
    (kk : W p l e R s m args below meth c H locs cells slots Q (F0 m (pc + 3) ls (.ref (z_ad E (111, 0, 0)) :: rest))) : W p l e R s m args below meth c H locs cells slots Q (F0 m pc ls (.ref (z_ad E (100, 0, 0)) :: rest)) :=
  z_get C hs ha (z_c100 E _ _ _ _) rfl z_iX9 20 (by decide) hl rfl hdg kk
theorem zg_M_nWhat (C : z_C E own cc nL A p s m args meth c) (hs : z_H E A s σ H locs)  (ha : (100, 0, 0) ∈ z_ids E) {index : Nat} (hl : Cond.fieldLink own index "LogKeepersModel" "nWhat" "[I" ∈ z_wl) (hdg : decode cc pc = .ok (.getfield index, 3))
    (kk : W p l e R s m args below meth c H locs cells slots Q (F0 m (pc + 3) ls (.ref (z_ad E (112, 0, 0)) :: rest))) : W p l e R s m args below meth c H locs cells slots Q (F0 m pc ls (.ref (z_ad E (100, 0, 0)) :: rest)) :=
  z_get C hs ha (z_c100 E _ _ _ _) rfl z_iX9 21 (by decide) hl rfl hdg kk
theorem zg_M_nValue (C : z_C E own cc nL A p s m args meth c) (hs : z_H E A s σ H locs)  (ha : (100, 0, 0) ∈ z_ids E) {index : Nat} (hl : Cond.fieldLink own index "LogKeepersModel" "nValue" "[I" ∈ z_wl) (hdg : decode cc pc = .ok (.getfield index, 3))
    (kk : W p l e R s m args below meth c H locs cells slots Q (F0 m (pc + 3) ls (.ref (z_ad E (113, 0, 0)) :: rest))) : W p l e R s m args below meth c H locs cells slots Q (F0 m pc ls (.ref (z_ad E (100, 0, 0)) :: rest)) :=
  z_get C hs ha (z_c100 E _ _ _ _) rfl z_iX9 22 (by decide) hl rfl hdg kk
theorem zg_M_nAnswer (C : z_C E own cc nL A p s m args meth c) (hs : z_H E A s σ H locs)  (ha : (100, 0, 0) ∈ z_ids E) {index : Nat} (hl : Cond.fieldLink own index "LogKeepersModel" "nAnswer" "[I" ∈ z_wl) (hdg : decode cc pc = .ok (.getfield index, 3))
    (kk : W p l e R s m args below meth c H locs cells slots Q (F0 m (pc + 3) ls (.ref (z_ad E (114, 0, 0)) :: rest))) : W p l e R s m args below meth c H locs cells slots Q (F0 m pc ls (.ref (z_ad E (100, 0, 0)) :: rest)) :=
  z_get C hs ha (z_c100 E _ _ _ _) rfl z_iX9 23 (by decide) hl rfl hdg kk
theorem zg_M_row (C : z_C E own cc nL A p s m args meth c) (hs : z_H E A s σ H locs)  (ha : (100, 0, 0) ∈ z_ids E) {index : Nat} (hl : Cond.fieldLink own index "LogKeepersModel" "row" "[I" ∈ z_wl) (hdg : decode cc pc = .ok (.getfield index, 3))
    (kk : W p l e R s m args below meth c H locs cells slots Q (F0 m (pc + 3) ls (.ref (z_ad E (115, 0, 0)) :: rest))) : W p l e R s m args below meth c H locs cells slots Q (F0 m pc ls (.ref (z_ad E (100, 0, 0)) :: rest)) :=
  z_get C hs ha (z_c100 E _ _ _ _) rfl z_iX9 24 (by decide) hl rfl hdg kk
theorem zg_M_cell (C : z_C E own cc nL A p s m args meth c) (hs : z_H E A s σ H locs)  (ha : (100, 0, 0) ∈ z_ids E) {index : Nat} (hl : Cond.fieldLink own index "LogKeepersModel" "cell" "[I" ∈ z_wl) (hdg : decode cc pc = .ok (.getfield index, 3))
    (kk : W p l e R s m args below meth c H locs cells slots Q (F0 m (pc + 3) ls (.ref (z_ad E (116, 0, 0)) :: rest))) : W p l e R s m args below meth c H locs cells slots Q (F0 m pc ls (.ref (z_ad E (100, 0, 0)) :: rest)) :=
  z_get C hs ha (z_c100 E _ _ _ _) rfl z_iX9 25 (by decide) hl rfl hdg kk
theorem zg_M_noted (C : z_C E own cc nL A p s m args meth c) (hs : z_H E A s σ H locs)  (ha : (100, 0, 0) ∈ z_ids E) {index : Nat} (hl : Cond.fieldLink own index "LogKeepersModel" "noted" "I" ∈ z_wl) (hdg : decode cc pc = .ok (.getfield index, 3))
    (kk : W p l e R s m args below meth c H locs cells slots Q (F0 m (pc + 3) ls (.int (σ.1 (100, 0, 0) 26) :: rest))) : W p l e R s m args below meth c H locs cells slots Q (F0 m pc ls (.ref (z_ad E (100, 0, 0)) :: rest)) :=
  z_get C hs ha (z_c100 E _ _ _ _) rfl z_iX9 26 (by decide) hl rfl hdg kk
theorem zp_M_noted (C : z_C E own cc nL A p s m args meth c) (hs : z_H E A s σ H locs)  (ha : (100, 0, 0) ∈ z_ids E) {index : Nat} (hl : Cond.fieldLink own index "LogKeepersModel" "noted" "I" ∈ z_wl) {v : Int32} (hdg : decode cc pc = .ok (.putfield index, 3))
    (kk : ∀ (H : Heap) (locs : List Loc), z_H E A s (z_up σ (100, 0, 0) 26 v) H locs → W p l e R s m args below meth c H locs cells slots Q (F0 m (pc + 3) ls rest)) : W p l e R s m args below meth c H locs cells slots Q (F0 m pc ls (.int v :: .ref (z_ad E (100, 0, 0)) :: rest)) :=
  z_put C hs ha (z_c100 E _ _ _ _) rfl z_iX9 tyX9 tyX9_ok nmX9 26 (by decide) hl rfl (ty := .int) rfl rfl rfl (Nat.le_of_ble_eq_true rfl) (τ := z_up σ (100, 0, 0) 26 v) z_upR_o (by rw [z_up, z_upR_s]; rfl) hdg kk
end z_rows
