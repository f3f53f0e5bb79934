/-! ===== the two constructors ===== -/
def am_iA : Option (Option Value × am_H) := am_run am_Z0 3000 2047 mX11_init (0, am_ent mX11_init [.ref 0], [], am_push am_h0 11 13 (List.replicate 13 none))
def am_iBf (y : Option (Option Value × am_H)) : Option (Option Value × am_H) := match y with
  | some (none, h) => if h.1.length = 45 then am_run am_Z0 3000 2047 mX12_init (0, am_ent mX12_init [.ref 45], [], am_push h 12 39 (List.replicate 39 none)) else none
  | _ => none
def am_iB : Option (Option Value × am_H) := am_iBf am_iA
def am_f0 : List (Nat × Nat × Int32) := [(45, 4, 0), (45, 5, 0), (45, 6, 0), (45, 7, 0), (45, 8, 0), (45, 10, 0), (45, 19, 0), (45, 21, 0), (45, 29, 0), (45, 32, 0), (45, 12, -1), (53, 0, 0), (53, 1, 0), (53, 2, 0), (53, 3, 0), (46, 18, 9), (2, 36, 9), (46, 19, 8), (2, 37, 8), (46, 20, 6), (2, 38, 6), (46, 21, 4), (2, 39, 4), (46, 22, 3), (2, 40, 3), (46, 23, 2), (2, 41, 2), (46, 24, 2), (2, 42, 2), (46, 25, 3), (2, 43, 3), (46, 26, 4), (2, 44, 4), (46, 27, 6), (2, 45, 6), (46, 28, 8), (2, 46, 8), (46, 29, 9), (2, 47, 9), (59, 0, -1), (60, 0, 0), (33, 1, -1), (33, 2, 0), (33, 3, -1), (59, 1, -1), (60, 1, 0), (35, 1, -1), (35, 2, 0), (35, 3, -1), (59, 2, -1), (60, 2, 0), (37, 1, -1), (37, 2, 0), (37, 3, -1), (59, 3, -1), (60, 3, 0), (39, 1, -1), (39, 2, 0), (39, 3, -1), (59, 4, -1), (60, 4, 0), (41, 1, -1), (41, 2, 0), (41, 3, -1), (59, 5, -1), (60, 5, 0), (43, 1, -1), (43, 2, 0), (43, 3, -1), (1, 1, 0), (1, 2, 0), (6, 2, 0), (3, 2, 0), (24, 5, 0), (24, 6, 0), (24, 7, 0), (18, 8, 0), (19, 0, 0), (19, 1, 0), (19, 2, 0), (19, 3, 0), (19, 4, 0), (29, 2, 0), (29, 3, 0)]
def am_ok (h : am_H) : Bool := decide (h.1 = am_S0) && ((am_f0.all fun x => decide (h.2.1 x.1 x.2.1 = x.2.2)) && ((List.range 60).all fun i => (List.range 6).all fun d => decide (h.2.2 (34 + 2 * d) i = 0) && decide (h.2.2 61 (60 * d + i) = 0)))
def am_okO (x : Option (Option Value × am_H)) : Bool := match x with
  | some (none, h) => am_ok h
  | _ => false
set_option maxRecDepth 100000 in
theorem am_iB_ok : am_okO am_iB = true := by decide +kernel
