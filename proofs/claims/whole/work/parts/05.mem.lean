/-! MEMORY: behind the constructors every cell has its number; ints and longs change, references do not -/
def yb_shL : List (List yb_Sh) := [
  [.inl 11, .inl 8, .inl 10, .inr (.int, 8), .inr (.int, 8), .inr (.int, 8), .inr (.int, 8), .inr (.boolean, 8), .inr (.int, 8), .inr (.int, 8), .inr (.int, 8), .inr (.int, 8), .inr (.long, 8), .inl 4, .inr (.int, 24), .inr (.int, 24), .inr (.int, 24), .inr (.int, 24), .inr (.int, 24), .inr (.int, 24), .inr (.int, 24), .inl 2, .inr (.int, 24), .inr (.int, 24), .inr (.int, 24), .inr (.int, 24), .inr (.int, 24), .inr (.int, 24), .inr (.int, 24), .inr (.int, 24), .inr (.int, 24), .inr (.int, 24)],
  [.inr (.int, 24), .inr (.int, 24), .inr (.array .int, 6), .inr (.int, 6), .inr (.int, 6), .inr (.int, 6), .inr (.int, 6), .inr (.int, 6), .inr (.int, 6), .inl 7, .inr (.int, 60), .inr (.int, 60), .inr (.int, 60), .inr (.int, 60), .inr (.int, 60), .inr (.int, 60), .inr (.int, 60), .inr (.int, 40), .inr (.int, 40), .inr (.int, 40), .inr (.int, 24), .inr (.int, 24), .inl 5, .inr (.int, 10), .inr (.int, 10), .inr (.array .int, 10), .inr (.int, 500), .inr (.int, 500), .inr (.int, 500), .inr (.int, 500), .inr (.int, 500), .inr (.int, 500)],
  [.inr (.int, 500), .inr (.int, 500), .inr (.int, 500), .inr (.int, 500), .inr (.array .int, 10), .inr (.int, 6), .inr (.int, 6), .inr (.int, 6), .inr (.int, 6), .inr (.int, 6), .inr (.int, 6), .inr (.int, 6), .inr (.int, 6), .inr (.int, 6), .inr (.int, 6), .inr (.array .int, 10), .inr (.int, 6), .inr (.int, 6), .inr (.int, 6), .inr (.int, 6), .inr (.int, 6), .inr (.int, 6), .inr (.int, 6), .inr (.int, 6), .inr (.int, 6), .inr (.int, 6), .inr (.int, 64), .inr (.int, 18), .inl 9, .inr (.int, 500), .inr (.int, 6), .inr (.int, 6)],
  [.inr (.int, 500), .inr (.int, 501), .inr (.int, 501), .inr (.int, 501), .inl 6, .inr (.int, 24), .inr (.int, 24), .inr (.array .int, 24), .inr (.int, 24), .inr (.int, 24), .inr (.int, 24), .inr (.int, 24), .inr (.int, 24), .inr (.int, 24), .inr (.int, 24), .inr (.int, 24), .inr (.int, 24), .inr (.int, 24), .inr (.int, 24), .inr (.int, 24), .inr (.int, 24), .inr (.int, 24), .inr (.int, 24), .inr (.int, 24), .inr (.int, 24), .inr (.int, 24), .inr (.int, 24), .inr (.int, 24), .inr (.int, 24), .inr (.int, 24), .inr (.int, 24), .inr (.int, 24)],
  [.inl 1, .inr (.int, 6), .inr (.int, 6), .inr (.int, 6), .inr (.int, 6), .inr (.int, 6), .inr (.int, 7), .inr (.int, 7), .inr (.int, 7), .inl 0, .inr (.array .int, 24), .inr (.int, 200), .inr (.int, 200), .inr (.int, 200), .inr (.int, 200), .inr (.int, 200), .inr (.int, 200), .inr (.int, 200), .inr (.int, 200), .inr (.int, 200), .inr (.int, 200), .inr (.int, 200), .inr (.int, 200), .inr (.int, 200), .inr (.int, 200), .inr (.int, 200), .inr (.int, 200), .inr (.int, 200), .inr (.int, 200), .inr (.int, 200), .inr (.int, 200), .inr (.int, 200)],
  [.inr (.int, 200), .inr (.int, 200), .inr (.int, 200), .inr (.array .int, 8), .inr (.int, 200), .inr (.int, 200), .inr (.int, 200), .inr (.int, 200), .inr (.int, 200), .inr (.int, 200), .inr (.int, 200), .inr (.int, 200), .inl 3, .inr (.int, 201), .inr (.int, 201), .inr (.int, 201), .inl 12, .inr (.int, 8), .inr (.int, 8), .inr (.int, 8), .inr (.int, 8), .inr (.long, 8), .inr (.boolean, 8), .inr (.int, 24), .inr (.int, 24), .inr (.int, 24), .inr (.int, 24), .inr (.int, 24), .inr (.int, 24), .inr (.int, 24), .inr (.int, 24), .inr (.int, 24)],
  [.inr (.int, 24), .inr (.int, 24), .inr (.int, 24), .inr (.int, 24), .inr (.int, 24), .inr (.int, 24), .inr (.int, 24), .inr (.int, 24), .inr (.array .int, 6), .inr (.int, 6), .inr (.int, 6), .inr (.int, 6), .inr (.int, 6), .inr (.int, 6), .inr (.int, 6), .inr (.int, 60), .inr (.int, 60), .inr (.int, 60), .inr (.int, 60), .inr (.int, 60), .inr (.int, 60), .inr (.int, 60), .inr (.int, 40), .inr (.int, 40), .inr (.int, 40), .inr (.array .int, 24), .inr (.int, 24), .inr (.int, 24), .inr (.int, 24), .inr (.int, 24), .inr (.int, 24), .inr (.int, 24)],
  [.inr (.int, 24), .inr (.int, 24), .inr (.int, 24), .inr (.int, 24), .inr (.int, 24), .inr (.int, 24), .inr (.int, 24), .inr (.int, 24), .inr (.int, 24), .inr (.int, 24), .inr (.int, 24), .inr (.int, 24), .inr (.int, 24), .inr (.int, 24), .inr (.int, 24), .inr (.int, 24), .inr (.int, 24), .inr (.int, 24), .inr (.byte, 500), .inr (.array (.array .int), 11), .inr (.array .int, 6), .inr (.int, 1040), .inr (.int, 1040), .inr (.int, 1040), .inr (.int, 1040), .inr (.int, 1040), .inr (.int, 1040), .inr (.array .int, 6), .inr (.int, 1040), .inr (.int, 1040), .inr (.int, 1040), .inr (.int, 1040)],
  [.inr (.int, 1040), .inr (.int, 1040), .inr (.array .int, 6), .inr (.int, 1040), .inr (.int, 1040), .inr (.int, 1040), .inr (.int, 1040), .inr (.int, 1040), .inr (.int, 1040), .inr (.array .int, 6), .inr (.int, 1040), .inr (.int, 1040), .inr (.int, 1040), .inr (.int, 1040), .inr (.int, 1040), .inr (.int, 1040), .inr (.array .int, 6), .inr (.int, 1040), .inr (.int, 1040), .inr (.int, 1040), .inr (.int, 1040), .inr (.int, 1040), .inr (.int, 1040), .inr (.array .int, 6), .inr (.int, 1040), .inr (.int, 1040), .inr (.int, 1040), .inr (.int, 1040), .inr (.int, 1040), .inr (.int, 1040), .inr (.array .int, 6), .inr (.int, 1040)],
  [.inr (.int, 1040), .inr (.int, 1040), .inr (.int, 1040), .inr (.int, 1040), .inr (.int, 1040), .inr (.array .int, 6), .inr (.int, 1040), .inr (.int, 1040), .inr (.int, 1040), .inr (.int, 1040), .inr (.int, 1040), .inr (.int, 1040), .inr (.array .int, 6), .inr (.int, 1040), .inr (.int, 1040), .inr (.int, 1040), .inr (.int, 1040), .inr (.int, 1040), .inr (.int, 1040), .inr (.array .int, 6), .inr (.int, 1040), .inr (.int, 1040), .inr (.int, 1040), .inr (.int, 1040), .inr (.int, 1040), .inr (.int, 1040), .inr (.array .int, 6), .inr (.int, 1040), .inr (.int, 1040), .inr (.int, 1040), .inr (.int, 1040), .inr (.int, 1040)],
  [.inr (.int, 1040), .inr (.array .int, 11), .inr (.int, 6), .inr (.int, 6), .inr (.int, 6), .inr (.int, 6), .inr (.int, 6), .inr (.int, 6), .inr (.int, 6), .inr (.int, 6), .inr (.int, 6), .inr (.int, 6), .inr (.int, 6), .inr (.int, 10), .inr (.int, 10), .inr (.object "java/lang/String", 6), .inr (.object "java/lang/String", 18), .inr (.int, 18), .inr (.int, 520), .inr (.int, 24), .inr (.int, 24), .inr (.array .int, 24), .inr (.int, 24), .inr (.int, 24), .inr (.int, 24), .inr (.int, 24), .inr (.int, 24), .inr (.int, 24), .inr (.int, 24), .inr (.int, 24), .inr (.int, 24), .inr (.int, 24)],
  [.inr (.int, 24), .inr (.int, 24), .inr (.int, 24), .inr (.int, 24), .inr (.int, 24), .inr (.int, 24), .inr (.int, 24), .inr (.int, 24), .inr (.int, 24), .inr (.int, 24), .inr (.int, 24), .inr (.int, 24), .inr (.int, 24), .inr (.int, 24), .inr (.array .int, 24), .inr (.int, 200), .inr (.int, 200), .inr (.int, 200), .inr (.int, 200), .inr (.int, 200), .inr (.int, 200), .inr (.int, 200), .inr (.int, 200), .inr (.int, 200), .inr (.int, 200), .inr (.int, 200), .inr (.int, 200), .inr (.int, 200), .inr (.int, 200), .inr (.int, 200), .inr (.int, 200), .inr (.int, 200)],
  [.inr (.int, 200), .inr (.int, 200), .inr (.int, 200), .inr (.int, 200), .inr (.int, 200), .inr (.int, 200), .inr (.int, 200), .inr (.array .long, 200), .inr (.long, 5), .inr (.long, 5), .inr (.long, 5), .inr (.long, 5), .inr (.long, 5), .inr (.long, 5), .inr (.long, 5), .inr (.long, 5), .inr (.long, 5), .inr (.long, 5), .inr (.long, 5), .inr (.long, 5), .inr (.long, 5), .inr (.long, 5), .inr (.long, 5), .inr (.long, 5), .inr (.long, 5), .inr (.long, 5), .inr (.long, 5), .inr (.long, 5), .inr (.long, 5), .inr (.long, 5), .inr (.long, 5), .inr (.long, 5)],
  [.inr (.long, 5), .inr (.long, 5), .inr (.long, 5), .inr (.long, 5), .inr (.long, 5), .inr (.long, 5), .inr (.long, 5), .inr (.long, 5), .inr (.long, 5), .inr (.long, 5), .inr (.long, 5), .inr (.long, 5), .inr (.long, 5), .inr (.long, 5), .inr (.long, 5), .inr (.long, 5), .inr (.long, 5), .inr (.long, 5), .inr (.long, 5), .inr (.long, 5), .inr (.long, 5), .inr (.long, 5), .inr (.long, 5), .inr (.long, 5), .inr (.long, 5), .inr (.long, 5), .inr (.long, 5), .inr (.long, 5), .inr (.long, 5), .inr (.long, 5), .inr (.long, 5), .inr (.long, 5)],
  [.inr (.long, 5), .inr (.long, 5), .inr (.long, 5), .inr (.long, 5), .inr (.long, 5), .inr (.long, 5), .inr (.long, 5), .inr (.long, 5), .inr (.long, 5), .inr (.long, 5), .inr (.long, 5), .inr (.long, 5), .inr (.long, 5), .inr (.long, 5), .inr (.long, 5), .inr (.long, 5), .inr (.long, 5), .inr (.long, 5), .inr (.long, 5), .inr (.long, 5), .inr (.long, 5), .inr (.long, 5), .inr (.long, 5), .inr (.long, 5), .inr (.long, 5), .inr (.long, 5), .inr (.long, 5), .inr (.long, 5), .inr (.long, 5), .inr (.long, 5), .inr (.long, 5), .inr (.long, 5)],
  [.inr (.long, 5), .inr (.long, 5), .inr (.long, 5), .inr (.long, 5), .inr (.long, 5), .inr (.long, 5), .inr (.long, 5), .inr (.long, 5), .inr (.long, 5), .inr (.long, 5), .inr (.long, 5), .inr (.long, 5), .inr (.long, 5), .inr (.long, 5), .inr (.long, 5), .inr (.long, 5), .inr (.long, 5), .inr (.long, 5), .inr (.long, 5), .inr (.long, 5), .inr (.long, 5), .inr (.long, 5), .inr (.long, 5), .inr (.long, 5), .inr (.long, 5), .inr (.long, 5), .inr (.long, 5), .inr (.long, 5), .inr (.long, 5), .inr (.long, 5), .inr (.long, 5), .inr (.long, 5)],
  [.inr (.long, 5), .inr (.long, 5), .inr (.long, 5), .inr (.long, 5), .inr (.long, 5), .inr (.long, 5), .inr (.long, 5), .inr (.long, 5), .inr (.long, 5), .inr (.long, 5), .inr (.long, 5), .inr (.long, 5), .inr (.long, 5), .inr (.long, 5), .inr (.long, 5), .inr (.long, 5), .inr (.long, 5), .inr (.long, 5), .inr (.long, 5), .inr (.long, 5), .inr (.long, 5), .inr (.long, 5), .inr (.long, 5), .inr (.long, 5), .inr (.long, 5), .inr (.long, 5), .inr (.long, 5), .inr (.long, 5), .inr (.long, 5), .inr (.long, 5), .inr (.long, 5), .inr (.long, 5)],
  [.inr (.long, 5), .inr (.long, 5), .inr (.long, 5), .inr (.long, 5), .inr (.long, 5), .inr (.long, 5), .inr (.long, 5), .inr (.long, 5), .inr (.long, 5), .inr (.long, 5), .inr (.long, 5), .inr (.long, 5), .inr (.long, 5), .inr (.long, 5), .inr (.long, 5), .inr (.long, 5), .inr (.long, 5), .inr (.long, 5), .inr (.long, 5), .inr (.long, 5), .inr (.long, 5), .inr (.long, 5), .inr (.long, 5), .inr (.long, 5), .inr (.long, 5), .inr (.long, 5), .inr (.long, 5), .inr (.long, 5), .inr (.long, 5), .inr (.long, 5), .inr (.long, 5), .inr (.long, 5)],
  [.inr (.long, 5), .inr (.long, 5), .inr (.long, 5), .inr (.long, 5), .inr (.long, 5), .inr (.long, 5), .inr (.long, 5), .inr (.long, 5), .inr (.long, 5), .inr (.long, 5), .inr (.long, 5), .inr (.long, 5), .inr (.long, 5), .inr (.long, 5), .inr (.long, 5), .inr (.long, 5), .inr (.int, 6), .inr (.int, 6), .inr (.int, 6), .inr (.int, 6), .inr (.int, 6), .inr (.int, 6), .inr (.int, 40), .inr (.int, 40), .inr (.int, 40), .inr (.int, 40), .inr (.int, 40)]]
def yb_sh0 (a : Nat) : Option yb_Sh := match yb_shL[a / 32]? with
  | some l => l[a % 32]?
  | none => none
def yb_shX (X : List (FieldType × Nat)) (a : Nat) : Option yb_Sh := if a < 603 then yb_sh0 a else (X[a - 603]?).map .inr
def yb_Rt : List (Nat × List (Option Nat)) := [(0, [some 1, some 92, some 100, some 128, some 137, some 172]),
  (1, [some 2, some 13, some 21, some 41, some 54, none, none, none, some 91]),
  (2, [none, some 3, some 4, some 5, some 6, some 7, some 8, some 9, some 10, some 11, some 12]),
  (13, [none, some 14, some 15, some 16, some 17, some 18, some 19, some 20]),
  (21, [none, some 22, some 23, some 24, some 25, some 26, some 27, some 28, some 29, some 30, some 31, some 32, some 33, some 34]),
  (41, [none, some 42, some 43, some 44, some 45, some 46, some 47, some 48, none, some 49, some 50, some 51, some 52, some 53]),
  (54, [none, none, some 55, some 56, some 57, some 68, some 79, some 90]),
  (92, [none, none, none, some 93, some 94, some 95, some 96, some 97, some 98, some 99, none, none]),
  (100, [some 1, some 101, some 102, some 103, none, none]),
  (128, [some 1, none, none, some 129, none, none, none, none, some 130, some 131, some 132, some 133, some 134, some 135, some 136]),
  (137, [some 138, some 163]),
  (172, [none, none, some 173, some 174, some 175]),
  (176, [some 177, some 178, some 179, some 180, some 181, some 182, none, none, none, some 183, some 184, some 185, some 186, some 187, some 188, none, some 189, some 190, some 191, some 192, some 193, some 194, some 195, some 196, some 197, some 198, some 199, none, some 200, some 207, some 208, some 209, some 210, some 211, some 212, some 213, none, some 214, some 215, some 216, none, some 217, none, some 242, none, none, none, none, none, none, some 243, some 321, some 333, some 334, none, none, some 335, some 336, none, some 337, some 338, some 339, some 340, some 341, none, none, some 366, some 391, some 592, some 593, some 594, some 595, some 596, some 597, none, none, none, none, none, some 598, some 599, some 600, some 601, some 602, none, none])]
def yb_Rf : List (Nat × Nat × Nat × Nat) := [(34, 35, 1, 6), (57, 58, 1, 10), (68, 69, 1, 10), (79, 80, 1, 10), (103, 104, 1, 24), (138, 139, 1, 24), (163, 164, 1, 8), (200, 201, 1, 6), (217, 218, 1, 24), (243, 244, 7, 11), (244, 245, 1, 6), (251, 252, 1, 6), (258, 259, 1, 6), (265, 266, 1, 6), (272, 273, 1, 6), (279, 280, 1, 6), (286, 287, 1, 6), (293, 294, 1, 6), (300, 301, 1, 6), (307, 308, 1, 6), (314, 315, 1, 6), (321, 322, 1, 11), (335, 100001, 1, 6), (336, 100007, 1, 18), (341, 342, 1, 24), (366, 367, 1, 24), (391, 392, 1, 200)]
def yb_R0 (a k : Nat) : Option Nat := match yb_Rt.lookup a with
  | some l => l.getD k none
  | none => match yb_Rf.lookup a with
    | some (b, st, n) => if k < n then some (b + st * k) else none
    | none => none
abbrev yb_S : Type := (Nat → Nat → Int32) × (Nat → Nat → Int64)
def yb_mk (s : yb_S) (X : List (FieldType × Nat)) : yb_M := (s.1, s.2, yb_R0, yb_shX X, 603 + X.length)
theorem sh_0 (s : yb_S) (X : List (FieldType × Nat)) : (yb_mk s X).2.2.2.1 0 = some (.inl 11) := rfl
theorem sh_1 (s : yb_S) (X : List (FieldType × Nat)) : (yb_mk s X).2.2.2.1 1 = some (.inl 8) := rfl
theorem sh_2 (s : yb_S) (X : List (FieldType × Nat)) : (yb_mk s X).2.2.2.1 2 = some (.inl 10) := rfl
theorem sh_3 (s : yb_S) (X : List (FieldType × Nat)) : (yb_mk s X).2.2.2.1 3 = some (.inr (.int, 8)) := rfl
theorem sh_4 (s : yb_S) (X : List (FieldType × Nat)) : (yb_mk s X).2.2.2.1 4 = some (.inr (.int, 8)) := rfl
theorem sh_5 (s : yb_S) (X : List (FieldType × Nat)) : (yb_mk s X).2.2.2.1 5 = some (.inr (.int, 8)) := rfl
theorem sh_6 (s : yb_S) (X : List (FieldType × Nat)) : (yb_mk s X).2.2.2.1 6 = some (.inr (.int, 8)) := rfl
theorem sh_7 (s : yb_S) (X : List (FieldType × Nat)) : (yb_mk s X).2.2.2.1 7 = some (.inr (.boolean, 8)) := rfl
theorem sh_8 (s : yb_S) (X : List (FieldType × Nat)) : (yb_mk s X).2.2.2.1 8 = some (.inr (.int, 8)) := rfl
theorem sh_9 (s : yb_S) (X : List (FieldType × Nat)) : (yb_mk s X).2.2.2.1 9 = some (.inr (.int, 8)) := rfl
theorem sh_10 (s : yb_S) (X : List (FieldType × Nat)) : (yb_mk s X).2.2.2.1 10 = some (.inr (.int, 8)) := rfl
theorem sh_11 (s : yb_S) (X : List (FieldType × Nat)) : (yb_mk s X).2.2.2.1 11 = some (.inr (.int, 8)) := rfl
theorem sh_12 (s : yb_S) (X : List (FieldType × Nat)) : (yb_mk s X).2.2.2.1 12 = some (.inr (.long, 8)) := rfl
theorem sh_13 (s : yb_S) (X : List (FieldType × Nat)) : (yb_mk s X).2.2.2.1 13 = some (.inl 4) := rfl
theorem sh_14 (s : yb_S) (X : List (FieldType × Nat)) : (yb_mk s X).2.2.2.1 14 = some (.inr (.int, 24)) := rfl
theorem sh_15 (s : yb_S) (X : List (FieldType × Nat)) : (yb_mk s X).2.2.2.1 15 = some (.inr (.int, 24)) := rfl
theorem sh_16 (s : yb_S) (X : List (FieldType × Nat)) : (yb_mk s X).2.2.2.1 16 = some (.inr (.int, 24)) := rfl
theorem sh_17 (s : yb_S) (X : List (FieldType × Nat)) : (yb_mk s X).2.2.2.1 17 = some (.inr (.int, 24)) := rfl
theorem sh_18 (s : yb_S) (X : List (FieldType × Nat)) : (yb_mk s X).2.2.2.1 18 = some (.inr (.int, 24)) := rfl
theorem sh_19 (s : yb_S) (X : List (FieldType × Nat)) : (yb_mk s X).2.2.2.1 19 = some (.inr (.int, 24)) := rfl
theorem sh_20 (s : yb_S) (X : List (FieldType × Nat)) : (yb_mk s X).2.2.2.1 20 = some (.inr (.int, 24)) := rfl
theorem sh_21 (s : yb_S) (X : List (FieldType × Nat)) : (yb_mk s X).2.2.2.1 21 = some (.inl 2) := rfl
theorem sh_22 (s : yb_S) (X : List (FieldType × Nat)) : (yb_mk s X).2.2.2.1 22 = some (.inr (.int, 24)) := rfl
theorem sh_23 (s : yb_S) (X : List (FieldType × Nat)) : (yb_mk s X).2.2.2.1 23 = some (.inr (.int, 24)) := rfl
theorem sh_24 (s : yb_S) (X : List (FieldType × Nat)) : (yb_mk s X).2.2.2.1 24 = some (.inr (.int, 24)) := rfl
theorem sh_25 (s : yb_S) (X : List (FieldType × Nat)) : (yb_mk s X).2.2.2.1 25 = some (.inr (.int, 24)) := rfl
theorem sh_26 (s : yb_S) (X : List (FieldType × Nat)) : (yb_mk s X).2.2.2.1 26 = some (.inr (.int, 24)) := rfl
theorem sh_27 (s : yb_S) (X : List (FieldType × Nat)) : (yb_mk s X).2.2.2.1 27 = some (.inr (.int, 24)) := rfl
theorem sh_28 (s : yb_S) (X : List (FieldType × Nat)) : (yb_mk s X).2.2.2.1 28 = some (.inr (.int, 24)) := rfl
theorem sh_29 (s : yb_S) (X : List (FieldType × Nat)) : (yb_mk s X).2.2.2.1 29 = some (.inr (.int, 24)) := rfl
theorem sh_30 (s : yb_S) (X : List (FieldType × Nat)) : (yb_mk s X).2.2.2.1 30 = some (.inr (.int, 24)) := rfl
theorem sh_31 (s : yb_S) (X : List (FieldType × Nat)) : (yb_mk s X).2.2.2.1 31 = some (.inr (.int, 24)) := rfl
theorem sh_32 (s : yb_S) (X : List (FieldType × Nat)) : (yb_mk s X).2.2.2.1 32 = some (.inr (.int, 24)) := rfl
theorem sh_33 (s : yb_S) (X : List (FieldType × Nat)) : (yb_mk s X).2.2.2.1 33 = some (.inr (.int, 24)) := rfl
theorem sh_34 (s : yb_S) (X : List (FieldType × Nat)) : (yb_mk s X).2.2.2.1 34 = some (.inr (.array .int, 6)) := rfl
theorem sh_41 (s : yb_S) (X : List (FieldType × Nat)) : (yb_mk s X).2.2.2.1 41 = some (.inl 7) := rfl
theorem sh_42 (s : yb_S) (X : List (FieldType × Nat)) : (yb_mk s X).2.2.2.1 42 = some (.inr (.int, 60)) := rfl
theorem sh_43 (s : yb_S) (X : List (FieldType × Nat)) : (yb_mk s X).2.2.2.1 43 = some (.inr (.int, 60)) := rfl
theorem sh_44 (s : yb_S) (X : List (FieldType × Nat)) : (yb_mk s X).2.2.2.1 44 = some (.inr (.int, 60)) := rfl
theorem sh_45 (s : yb_S) (X : List (FieldType × Nat)) : (yb_mk s X).2.2.2.1 45 = some (.inr (.int, 60)) := rfl
theorem sh_46 (s : yb_S) (X : List (FieldType × Nat)) : (yb_mk s X).2.2.2.1 46 = some (.inr (.int, 60)) := rfl
theorem sh_47 (s : yb_S) (X : List (FieldType × Nat)) : (yb_mk s X).2.2.2.1 47 = some (.inr (.int, 60)) := rfl
theorem sh_48 (s : yb_S) (X : List (FieldType × Nat)) : (yb_mk s X).2.2.2.1 48 = some (.inr (.int, 60)) := rfl
theorem sh_49 (s : yb_S) (X : List (FieldType × Nat)) : (yb_mk s X).2.2.2.1 49 = some (.inr (.int, 40)) := rfl
theorem sh_50 (s : yb_S) (X : List (FieldType × Nat)) : (yb_mk s X).2.2.2.1 50 = some (.inr (.int, 40)) := rfl
theorem sh_51 (s : yb_S) (X : List (FieldType × Nat)) : (yb_mk s X).2.2.2.1 51 = some (.inr (.int, 40)) := rfl
theorem sh_52 (s : yb_S) (X : List (FieldType × Nat)) : (yb_mk s X).2.2.2.1 52 = some (.inr (.int, 24)) := rfl
theorem sh_53 (s : yb_S) (X : List (FieldType × Nat)) : (yb_mk s X).2.2.2.1 53 = some (.inr (.int, 24)) := rfl
theorem sh_54 (s : yb_S) (X : List (FieldType × Nat)) : (yb_mk s X).2.2.2.1 54 = some (.inl 5) := rfl
theorem sh_55 (s : yb_S) (X : List (FieldType × Nat)) : (yb_mk s X).2.2.2.1 55 = some (.inr (.int, 10)) := rfl
theorem sh_56 (s : yb_S) (X : List (FieldType × Nat)) : (yb_mk s X).2.2.2.1 56 = some (.inr (.int, 10)) := rfl
theorem sh_57 (s : yb_S) (X : List (FieldType × Nat)) : (yb_mk s X).2.2.2.1 57 = some (.inr (.array .int, 10)) := rfl
theorem sh_68 (s : yb_S) (X : List (FieldType × Nat)) : (yb_mk s X).2.2.2.1 68 = some (.inr (.array .int, 10)) := rfl
theorem sh_79 (s : yb_S) (X : List (FieldType × Nat)) : (yb_mk s X).2.2.2.1 79 = some (.inr (.array .int, 10)) := rfl
theorem sh_90 (s : yb_S) (X : List (FieldType × Nat)) : (yb_mk s X).2.2.2.1 90 = some (.inr (.int, 64)) := rfl
theorem sh_91 (s : yb_S) (X : List (FieldType × Nat)) : (yb_mk s X).2.2.2.1 91 = some (.inr (.int, 18)) := rfl
theorem sh_92 (s : yb_S) (X : List (FieldType × Nat)) : (yb_mk s X).2.2.2.1 92 = some (.inl 9) := rfl
theorem sh_93 (s : yb_S) (X : List (FieldType × Nat)) : (yb_mk s X).2.2.2.1 93 = some (.inr (.int, 500)) := rfl
theorem sh_94 (s : yb_S) (X : List (FieldType × Nat)) : (yb_mk s X).2.2.2.1 94 = some (.inr (.int, 6)) := rfl
theorem sh_95 (s : yb_S) (X : List (FieldType × Nat)) : (yb_mk s X).2.2.2.1 95 = some (.inr (.int, 6)) := rfl
theorem sh_96 (s : yb_S) (X : List (FieldType × Nat)) : (yb_mk s X).2.2.2.1 96 = some (.inr (.int, 500)) := rfl
theorem sh_97 (s : yb_S) (X : List (FieldType × Nat)) : (yb_mk s X).2.2.2.1 97 = some (.inr (.int, 501)) := rfl
theorem sh_98 (s : yb_S) (X : List (FieldType × Nat)) : (yb_mk s X).2.2.2.1 98 = some (.inr (.int, 501)) := rfl
theorem sh_99 (s : yb_S) (X : List (FieldType × Nat)) : (yb_mk s X).2.2.2.1 99 = some (.inr (.int, 501)) := rfl
theorem sh_100 (s : yb_S) (X : List (FieldType × Nat)) : (yb_mk s X).2.2.2.1 100 = some (.inl 6) := rfl
theorem sh_101 (s : yb_S) (X : List (FieldType × Nat)) : (yb_mk s X).2.2.2.1 101 = some (.inr (.int, 24)) := rfl
theorem sh_102 (s : yb_S) (X : List (FieldType × Nat)) : (yb_mk s X).2.2.2.1 102 = some (.inr (.int, 24)) := rfl
theorem sh_103 (s : yb_S) (X : List (FieldType × Nat)) : (yb_mk s X).2.2.2.1 103 = some (.inr (.array .int, 24)) := rfl
theorem sh_128 (s : yb_S) (X : List (FieldType × Nat)) : (yb_mk s X).2.2.2.1 128 = some (.inl 1) := rfl
theorem sh_129 (s : yb_S) (X : List (FieldType × Nat)) : (yb_mk s X).2.2.2.1 129 = some (.inr (.int, 6)) := rfl
theorem sh_130 (s : yb_S) (X : List (FieldType × Nat)) : (yb_mk s X).2.2.2.1 130 = some (.inr (.int, 6)) := rfl
theorem sh_131 (s : yb_S) (X : List (FieldType × Nat)) : (yb_mk s X).2.2.2.1 131 = some (.inr (.int, 6)) := rfl
theorem sh_132 (s : yb_S) (X : List (FieldType × Nat)) : (yb_mk s X).2.2.2.1 132 = some (.inr (.int, 6)) := rfl
theorem sh_133 (s : yb_S) (X : List (FieldType × Nat)) : (yb_mk s X).2.2.2.1 133 = some (.inr (.int, 6)) := rfl
theorem sh_134 (s : yb_S) (X : List (FieldType × Nat)) : (yb_mk s X).2.2.2.1 134 = some (.inr (.int, 7)) := rfl
theorem sh_135 (s : yb_S) (X : List (FieldType × Nat)) : (yb_mk s X).2.2.2.1 135 = some (.inr (.int, 7)) := rfl
theorem sh_136 (s : yb_S) (X : List (FieldType × Nat)) : (yb_mk s X).2.2.2.1 136 = some (.inr (.int, 7)) := rfl
theorem sh_137 (s : yb_S) (X : List (FieldType × Nat)) : (yb_mk s X).2.2.2.1 137 = some (.inl 0) := rfl
theorem sh_138 (s : yb_S) (X : List (FieldType × Nat)) : (yb_mk s X).2.2.2.1 138 = some (.inr (.array .int, 24)) := rfl
theorem sh_163 (s : yb_S) (X : List (FieldType × Nat)) : (yb_mk s X).2.2.2.1 163 = some (.inr (.array .int, 8)) := rfl
theorem sh_172 (s : yb_S) (X : List (FieldType × Nat)) : (yb_mk s X).2.2.2.1 172 = some (.inl 3) := rfl
theorem sh_173 (s : yb_S) (X : List (FieldType × Nat)) : (yb_mk s X).2.2.2.1 173 = some (.inr (.int, 201)) := rfl
theorem sh_174 (s : yb_S) (X : List (FieldType × Nat)) : (yb_mk s X).2.2.2.1 174 = some (.inr (.int, 201)) := rfl
theorem sh_175 (s : yb_S) (X : List (FieldType × Nat)) : (yb_mk s X).2.2.2.1 175 = some (.inr (.int, 201)) := rfl
theorem sh_176 (s : yb_S) (X : List (FieldType × Nat)) : (yb_mk s X).2.2.2.1 176 = some (.inl 12) := rfl
theorem sh_177 (s : yb_S) (X : List (FieldType × Nat)) : (yb_mk s X).2.2.2.1 177 = some (.inr (.int, 8)) := rfl
theorem sh_178 (s : yb_S) (X : List (FieldType × Nat)) : (yb_mk s X).2.2.2.1 178 = some (.inr (.int, 8)) := rfl
theorem sh_179 (s : yb_S) (X : List (FieldType × Nat)) : (yb_mk s X).2.2.2.1 179 = some (.inr (.int, 8)) := rfl
theorem sh_180 (s : yb_S) (X : List (FieldType × Nat)) : (yb_mk s X).2.2.2.1 180 = some (.inr (.int, 8)) := rfl
theorem sh_181 (s : yb_S) (X : List (FieldType × Nat)) : (yb_mk s X).2.2.2.1 181 = some (.inr (.long, 8)) := rfl
theorem sh_182 (s : yb_S) (X : List (FieldType × Nat)) : (yb_mk s X).2.2.2.1 182 = some (.inr (.boolean, 8)) := rfl
theorem sh_183 (s : yb_S) (X : List (FieldType × Nat)) : (yb_mk s X).2.2.2.1 183 = some (.inr (.int, 24)) := rfl
theorem sh_184 (s : yb_S) (X : List (FieldType × Nat)) : (yb_mk s X).2.2.2.1 184 = some (.inr (.int, 24)) := rfl
theorem sh_185 (s : yb_S) (X : List (FieldType × Nat)) : (yb_mk s X).2.2.2.1 185 = some (.inr (.int, 24)) := rfl
theorem sh_186 (s : yb_S) (X : List (FieldType × Nat)) : (yb_mk s X).2.2.2.1 186 = some (.inr (.int, 24)) := rfl
theorem sh_187 (s : yb_S) (X : List (FieldType × Nat)) : (yb_mk s X).2.2.2.1 187 = some (.inr (.int, 24)) := rfl
theorem sh_188 (s : yb_S) (X : List (FieldType × Nat)) : (yb_mk s X).2.2.2.1 188 = some (.inr (.int, 24)) := rfl
theorem sh_189 (s : yb_S) (X : List (FieldType × Nat)) : (yb_mk s X).2.2.2.1 189 = some (.inr (.int, 24)) := rfl
theorem sh_190 (s : yb_S) (X : List (FieldType × Nat)) : (yb_mk s X).2.2.2.1 190 = some (.inr (.int, 24)) := rfl
theorem sh_191 (s : yb_S) (X : List (FieldType × Nat)) : (yb_mk s X).2.2.2.1 191 = some (.inr (.int, 24)) := rfl
theorem sh_192 (s : yb_S) (X : List (FieldType × Nat)) : (yb_mk s X).2.2.2.1 192 = some (.inr (.int, 24)) := rfl
theorem sh_193 (s : yb_S) (X : List (FieldType × Nat)) : (yb_mk s X).2.2.2.1 193 = some (.inr (.int, 24)) := rfl
theorem sh_194 (s : yb_S) (X : List (FieldType × Nat)) : (yb_mk s X).2.2.2.1 194 = some (.inr (.int, 24)) := rfl
theorem sh_195 (s : yb_S) (X : List (FieldType × Nat)) : (yb_mk s X).2.2.2.1 195 = some (.inr (.int, 24)) := rfl
theorem sh_196 (s : yb_S) (X : List (FieldType × Nat)) : (yb_mk s X).2.2.2.1 196 = some (.inr (.int, 24)) := rfl
theorem sh_197 (s : yb_S) (X : List (FieldType × Nat)) : (yb_mk s X).2.2.2.1 197 = some (.inr (.int, 24)) := rfl
theorem sh_198 (s : yb_S) (X : List (FieldType × Nat)) : (yb_mk s X).2.2.2.1 198 = some (.inr (.int, 24)) := rfl
theorem sh_199 (s : yb_S) (X : List (FieldType × Nat)) : (yb_mk s X).2.2.2.1 199 = some (.inr (.int, 24)) := rfl
theorem sh_200 (s : yb_S) (X : List (FieldType × Nat)) : (yb_mk s X).2.2.2.1 200 = some (.inr (.array .int, 6)) := rfl
theorem sh_207 (s : yb_S) (X : List (FieldType × Nat)) : (yb_mk s X).2.2.2.1 207 = some (.inr (.int, 60)) := rfl
theorem sh_208 (s : yb_S) (X : List (FieldType × Nat)) : (yb_mk s X).2.2.2.1 208 = some (.inr (.int, 60)) := rfl
theorem sh_209 (s : yb_S) (X : List (FieldType × Nat)) : (yb_mk s X).2.2.2.1 209 = some (.inr (.int, 60)) := rfl
theorem sh_210 (s : yb_S) (X : List (FieldType × Nat)) : (yb_mk s X).2.2.2.1 210 = some (.inr (.int, 60)) := rfl
theorem sh_211 (s : yb_S) (X : List (FieldType × Nat)) : (yb_mk s X).2.2.2.1 211 = some (.inr (.int, 60)) := rfl
theorem sh_212 (s : yb_S) (X : List (FieldType × Nat)) : (yb_mk s X).2.2.2.1 212 = some (.inr (.int, 60)) := rfl
theorem sh_213 (s : yb_S) (X : List (FieldType × Nat)) : (yb_mk s X).2.2.2.1 213 = some (.inr (.int, 60)) := rfl
theorem sh_214 (s : yb_S) (X : List (FieldType × Nat)) : (yb_mk s X).2.2.2.1 214 = some (.inr (.int, 40)) := rfl
theorem sh_215 (s : yb_S) (X : List (FieldType × Nat)) : (yb_mk s X).2.2.2.1 215 = some (.inr (.int, 40)) := rfl
theorem sh_216 (s : yb_S) (X : List (FieldType × Nat)) : (yb_mk s X).2.2.2.1 216 = some (.inr (.int, 40)) := rfl
theorem sh_217 (s : yb_S) (X : List (FieldType × Nat)) : (yb_mk s X).2.2.2.1 217 = some (.inr (.array .int, 24)) := rfl
theorem sh_242 (s : yb_S) (X : List (FieldType × Nat)) : (yb_mk s X).2.2.2.1 242 = some (.inr (.byte, 500)) := rfl
theorem sh_243 (s : yb_S) (X : List (FieldType × Nat)) : (yb_mk s X).2.2.2.1 243 = some (.inr (.array (.array .int), 11)) := rfl
theorem sh_321 (s : yb_S) (X : List (FieldType × Nat)) : (yb_mk s X).2.2.2.1 321 = some (.inr (.array .int, 11)) := rfl
theorem sh_333 (s : yb_S) (X : List (FieldType × Nat)) : (yb_mk s X).2.2.2.1 333 = some (.inr (.int, 10)) := rfl
theorem sh_334 (s : yb_S) (X : List (FieldType × Nat)) : (yb_mk s X).2.2.2.1 334 = some (.inr (.int, 10)) := rfl
theorem sh_335 (s : yb_S) (X : List (FieldType × Nat)) : (yb_mk s X).2.2.2.1 335 = some (.inr (.object "java/lang/String", 6)) := rfl
theorem sh_336 (s : yb_S) (X : List (FieldType × Nat)) : (yb_mk s X).2.2.2.1 336 = some (.inr (.object "java/lang/String", 18)) := rfl
theorem sh_337 (s : yb_S) (X : List (FieldType × Nat)) : (yb_mk s X).2.2.2.1 337 = some (.inr (.int, 18)) := rfl
theorem sh_338 (s : yb_S) (X : List (FieldType × Nat)) : (yb_mk s X).2.2.2.1 338 = some (.inr (.int, 520)) := rfl
theorem sh_339 (s : yb_S) (X : List (FieldType × Nat)) : (yb_mk s X).2.2.2.1 339 = some (.inr (.int, 24)) := rfl
theorem sh_340 (s : yb_S) (X : List (FieldType × Nat)) : (yb_mk s X).2.2.2.1 340 = some (.inr (.int, 24)) := rfl
theorem sh_341 (s : yb_S) (X : List (FieldType × Nat)) : (yb_mk s X).2.2.2.1 341 = some (.inr (.array .int, 24)) := rfl
theorem sh_366 (s : yb_S) (X : List (FieldType × Nat)) : (yb_mk s X).2.2.2.1 366 = some (.inr (.array .int, 24)) := rfl
theorem sh_391 (s : yb_S) (X : List (FieldType × Nat)) : (yb_mk s X).2.2.2.1 391 = some (.inr (.array .long, 200)) := rfl
theorem sh_592 (s : yb_S) (X : List (FieldType × Nat)) : (yb_mk s X).2.2.2.1 592 = some (.inr (.int, 6)) := rfl
theorem sh_593 (s : yb_S) (X : List (FieldType × Nat)) : (yb_mk s X).2.2.2.1 593 = some (.inr (.int, 6)) := rfl
theorem sh_594 (s : yb_S) (X : List (FieldType × Nat)) : (yb_mk s X).2.2.2.1 594 = some (.inr (.int, 6)) := rfl
theorem sh_595 (s : yb_S) (X : List (FieldType × Nat)) : (yb_mk s X).2.2.2.1 595 = some (.inr (.int, 6)) := rfl
theorem sh_596 (s : yb_S) (X : List (FieldType × Nat)) : (yb_mk s X).2.2.2.1 596 = some (.inr (.int, 6)) := rfl
theorem sh_597 (s : yb_S) (X : List (FieldType × Nat)) : (yb_mk s X).2.2.2.1 597 = some (.inr (.int, 6)) := rfl
theorem sh_598 (s : yb_S) (X : List (FieldType × Nat)) : (yb_mk s X).2.2.2.1 598 = some (.inr (.int, 40)) := rfl
theorem sh_599 (s : yb_S) (X : List (FieldType × Nat)) : (yb_mk s X).2.2.2.1 599 = some (.inr (.int, 40)) := rfl
theorem sh_600 (s : yb_S) (X : List (FieldType × Nat)) : (yb_mk s X).2.2.2.1 600 = some (.inr (.int, 40)) := rfl
theorem sh_601 (s : yb_S) (X : List (FieldType × Nat)) : (yb_mk s X).2.2.2.1 601 = some (.inr (.int, 40)) := rfl
theorem sh_602 (s : yb_S) (X : List (FieldType × Nat)) : (yb_mk s X).2.2.2.1 602 = some (.inr (.int, 40)) := rfl
theorem rR_0_0 (s : yb_S) (X : List (FieldType × Nat)) : (yb_mk s X).2.2.1 0 0 = some 1 := rfl
theorem rR_0_1 (s : yb_S) (X : List (FieldType × Nat)) : (yb_mk s X).2.2.1 0 1 = some 92 := rfl
theorem rR_0_2 (s : yb_S) (X : List (FieldType × Nat)) : (yb_mk s X).2.2.1 0 2 = some 100 := rfl
theorem rR_0_3 (s : yb_S) (X : List (FieldType × Nat)) : (yb_mk s X).2.2.1 0 3 = some 128 := rfl
theorem rR_0_4 (s : yb_S) (X : List (FieldType × Nat)) : (yb_mk s X).2.2.1 0 4 = some 137 := rfl
theorem rR_0_5 (s : yb_S) (X : List (FieldType × Nat)) : (yb_mk s X).2.2.1 0 5 = some 172 := rfl
theorem rR_1_0 (s : yb_S) (X : List (FieldType × Nat)) : (yb_mk s X).2.2.1 1 0 = some 2 := rfl
theorem rR_1_1 (s : yb_S) (X : List (FieldType × Nat)) : (yb_mk s X).2.2.1 1 1 = some 13 := rfl
theorem rR_1_2 (s : yb_S) (X : List (FieldType × Nat)) : (yb_mk s X).2.2.1 1 2 = some 21 := rfl
theorem rR_1_3 (s : yb_S) (X : List (FieldType × Nat)) : (yb_mk s X).2.2.1 1 3 = some 41 := rfl
theorem rR_1_4 (s : yb_S) (X : List (FieldType × Nat)) : (yb_mk s X).2.2.1 1 4 = some 54 := rfl
theorem rR_1_8 (s : yb_S) (X : List (FieldType × Nat)) : (yb_mk s X).2.2.1 1 8 = some 91 := rfl
theorem rR_2_1 (s : yb_S) (X : List (FieldType × Nat)) : (yb_mk s X).2.2.1 2 1 = some 3 := rfl
theorem rR_2_2 (s : yb_S) (X : List (FieldType × Nat)) : (yb_mk s X).2.2.1 2 2 = some 4 := rfl
theorem rR_2_3 (s : yb_S) (X : List (FieldType × Nat)) : (yb_mk s X).2.2.1 2 3 = some 5 := rfl
theorem rR_2_4 (s : yb_S) (X : List (FieldType × Nat)) : (yb_mk s X).2.2.1 2 4 = some 6 := rfl
theorem rR_2_5 (s : yb_S) (X : List (FieldType × Nat)) : (yb_mk s X).2.2.1 2 5 = some 7 := rfl
theorem rR_2_6 (s : yb_S) (X : List (FieldType × Nat)) : (yb_mk s X).2.2.1 2 6 = some 8 := rfl
theorem rR_2_7 (s : yb_S) (X : List (FieldType × Nat)) : (yb_mk s X).2.2.1 2 7 = some 9 := rfl
theorem rR_2_8 (s : yb_S) (X : List (FieldType × Nat)) : (yb_mk s X).2.2.1 2 8 = some 10 := rfl
theorem rR_2_9 (s : yb_S) (X : List (FieldType × Nat)) : (yb_mk s X).2.2.1 2 9 = some 11 := rfl
theorem rR_2_10 (s : yb_S) (X : List (FieldType × Nat)) : (yb_mk s X).2.2.1 2 10 = some 12 := rfl
theorem rR_13_1 (s : yb_S) (X : List (FieldType × Nat)) : (yb_mk s X).2.2.1 13 1 = some 14 := rfl
theorem rR_13_2 (s : yb_S) (X : List (FieldType × Nat)) : (yb_mk s X).2.2.1 13 2 = some 15 := rfl
theorem rR_13_3 (s : yb_S) (X : List (FieldType × Nat)) : (yb_mk s X).2.2.1 13 3 = some 16 := rfl
theorem rR_13_4 (s : yb_S) (X : List (FieldType × Nat)) : (yb_mk s X).2.2.1 13 4 = some 17 := rfl
theorem rR_13_5 (s : yb_S) (X : List (FieldType × Nat)) : (yb_mk s X).2.2.1 13 5 = some 18 := rfl
theorem rR_13_6 (s : yb_S) (X : List (FieldType × Nat)) : (yb_mk s X).2.2.1 13 6 = some 19 := rfl
theorem rR_13_7 (s : yb_S) (X : List (FieldType × Nat)) : (yb_mk s X).2.2.1 13 7 = some 20 := rfl
theorem rR_21_1 (s : yb_S) (X : List (FieldType × Nat)) : (yb_mk s X).2.2.1 21 1 = some 22 := rfl
theorem rR_21_2 (s : yb_S) (X : List (FieldType × Nat)) : (yb_mk s X).2.2.1 21 2 = some 23 := rfl
theorem rR_21_3 (s : yb_S) (X : List (FieldType × Nat)) : (yb_mk s X).2.2.1 21 3 = some 24 := rfl
theorem rR_21_4 (s : yb_S) (X : List (FieldType × Nat)) : (yb_mk s X).2.2.1 21 4 = some 25 := rfl
theorem rR_21_5 (s : yb_S) (X : List (FieldType × Nat)) : (yb_mk s X).2.2.1 21 5 = some 26 := rfl
theorem rR_21_6 (s : yb_S) (X : List (FieldType × Nat)) : (yb_mk s X).2.2.1 21 6 = some 27 := rfl
theorem rR_21_7 (s : yb_S) (X : List (FieldType × Nat)) : (yb_mk s X).2.2.1 21 7 = some 28 := rfl
theorem rR_21_8 (s : yb_S) (X : List (FieldType × Nat)) : (yb_mk s X).2.2.1 21 8 = some 29 := rfl
theorem rR_21_9 (s : yb_S) (X : List (FieldType × Nat)) : (yb_mk s X).2.2.1 21 9 = some 30 := rfl
theorem rR_21_10 (s : yb_S) (X : List (FieldType × Nat)) : (yb_mk s X).2.2.1 21 10 = some 31 := rfl
theorem rR_21_11 (s : yb_S) (X : List (FieldType × Nat)) : (yb_mk s X).2.2.1 21 11 = some 32 := rfl
theorem rR_21_12 (s : yb_S) (X : List (FieldType × Nat)) : (yb_mk s X).2.2.1 21 12 = some 33 := rfl
theorem rR_21_13 (s : yb_S) (X : List (FieldType × Nat)) : (yb_mk s X).2.2.1 21 13 = some 34 := rfl
theorem rR_41_1 (s : yb_S) (X : List (FieldType × Nat)) : (yb_mk s X).2.2.1 41 1 = some 42 := rfl
theorem rR_41_2 (s : yb_S) (X : List (FieldType × Nat)) : (yb_mk s X).2.2.1 41 2 = some 43 := rfl
theorem rR_41_3 (s : yb_S) (X : List (FieldType × Nat)) : (yb_mk s X).2.2.1 41 3 = some 44 := rfl
theorem rR_41_4 (s : yb_S) (X : List (FieldType × Nat)) : (yb_mk s X).2.2.1 41 4 = some 45 := rfl
theorem rR_41_5 (s : yb_S) (X : List (FieldType × Nat)) : (yb_mk s X).2.2.1 41 5 = some 46 := rfl
theorem rR_41_6 (s : yb_S) (X : List (FieldType × Nat)) : (yb_mk s X).2.2.1 41 6 = some 47 := rfl
theorem rR_41_7 (s : yb_S) (X : List (FieldType × Nat)) : (yb_mk s X).2.2.1 41 7 = some 48 := rfl
theorem rR_41_9 (s : yb_S) (X : List (FieldType × Nat)) : (yb_mk s X).2.2.1 41 9 = some 49 := rfl
theorem rR_41_10 (s : yb_S) (X : List (FieldType × Nat)) : (yb_mk s X).2.2.1 41 10 = some 50 := rfl
theorem rR_41_11 (s : yb_S) (X : List (FieldType × Nat)) : (yb_mk s X).2.2.1 41 11 = some 51 := rfl
theorem rR_41_12 (s : yb_S) (X : List (FieldType × Nat)) : (yb_mk s X).2.2.1 41 12 = some 52 := rfl
theorem rR_41_13 (s : yb_S) (X : List (FieldType × Nat)) : (yb_mk s X).2.2.1 41 13 = some 53 := rfl
theorem rR_54_2 (s : yb_S) (X : List (FieldType × Nat)) : (yb_mk s X).2.2.1 54 2 = some 55 := rfl
theorem rR_54_3 (s : yb_S) (X : List (FieldType × Nat)) : (yb_mk s X).2.2.1 54 3 = some 56 := rfl
theorem rR_54_4 (s : yb_S) (X : List (FieldType × Nat)) : (yb_mk s X).2.2.1 54 4 = some 57 := rfl
theorem rR_54_5 (s : yb_S) (X : List (FieldType × Nat)) : (yb_mk s X).2.2.1 54 5 = some 68 := rfl
theorem rR_54_6 (s : yb_S) (X : List (FieldType × Nat)) : (yb_mk s X).2.2.1 54 6 = some 79 := rfl
theorem rR_54_7 (s : yb_S) (X : List (FieldType × Nat)) : (yb_mk s X).2.2.1 54 7 = some 90 := rfl
theorem rR_92_3 (s : yb_S) (X : List (FieldType × Nat)) : (yb_mk s X).2.2.1 92 3 = some 93 := rfl
theorem rR_92_4 (s : yb_S) (X : List (FieldType × Nat)) : (yb_mk s X).2.2.1 92 4 = some 94 := rfl
theorem rR_92_5 (s : yb_S) (X : List (FieldType × Nat)) : (yb_mk s X).2.2.1 92 5 = some 95 := rfl
theorem rR_92_6 (s : yb_S) (X : List (FieldType × Nat)) : (yb_mk s X).2.2.1 92 6 = some 96 := rfl
theorem rR_92_7 (s : yb_S) (X : List (FieldType × Nat)) : (yb_mk s X).2.2.1 92 7 = some 97 := rfl
theorem rR_92_8 (s : yb_S) (X : List (FieldType × Nat)) : (yb_mk s X).2.2.1 92 8 = some 98 := rfl
theorem rR_92_9 (s : yb_S) (X : List (FieldType × Nat)) : (yb_mk s X).2.2.1 92 9 = some 99 := rfl
theorem rR_100_0 (s : yb_S) (X : List (FieldType × Nat)) : (yb_mk s X).2.2.1 100 0 = some 1 := rfl
theorem rR_100_1 (s : yb_S) (X : List (FieldType × Nat)) : (yb_mk s X).2.2.1 100 1 = some 101 := rfl
theorem rR_100_2 (s : yb_S) (X : List (FieldType × Nat)) : (yb_mk s X).2.2.1 100 2 = some 102 := rfl
theorem rR_100_3 (s : yb_S) (X : List (FieldType × Nat)) : (yb_mk s X).2.2.1 100 3 = some 103 := rfl
theorem rR_128_0 (s : yb_S) (X : List (FieldType × Nat)) : (yb_mk s X).2.2.1 128 0 = some 1 := rfl
theorem rR_128_3 (s : yb_S) (X : List (FieldType × Nat)) : (yb_mk s X).2.2.1 128 3 = some 129 := rfl
theorem rR_128_8 (s : yb_S) (X : List (FieldType × Nat)) : (yb_mk s X).2.2.1 128 8 = some 130 := rfl
theorem rR_128_9 (s : yb_S) (X : List (FieldType × Nat)) : (yb_mk s X).2.2.1 128 9 = some 131 := rfl
theorem rR_128_10 (s : yb_S) (X : List (FieldType × Nat)) : (yb_mk s X).2.2.1 128 10 = some 132 := rfl
theorem rR_128_11 (s : yb_S) (X : List (FieldType × Nat)) : (yb_mk s X).2.2.1 128 11 = some 133 := rfl
theorem rR_128_12 (s : yb_S) (X : List (FieldType × Nat)) : (yb_mk s X).2.2.1 128 12 = some 134 := rfl
theorem rR_128_13 (s : yb_S) (X : List (FieldType × Nat)) : (yb_mk s X).2.2.1 128 13 = some 135 := rfl
theorem rR_128_14 (s : yb_S) (X : List (FieldType × Nat)) : (yb_mk s X).2.2.1 128 14 = some 136 := rfl
theorem rR_137_0 (s : yb_S) (X : List (FieldType × Nat)) : (yb_mk s X).2.2.1 137 0 = some 138 := rfl
theorem rR_137_1 (s : yb_S) (X : List (FieldType × Nat)) : (yb_mk s X).2.2.1 137 1 = some 163 := rfl
theorem rR_172_2 (s : yb_S) (X : List (FieldType × Nat)) : (yb_mk s X).2.2.1 172 2 = some 173 := rfl
theorem rR_172_3 (s : yb_S) (X : List (FieldType × Nat)) : (yb_mk s X).2.2.1 172 3 = some 174 := rfl
theorem rR_172_4 (s : yb_S) (X : List (FieldType × Nat)) : (yb_mk s X).2.2.1 172 4 = some 175 := rfl
theorem rR_176_0 (s : yb_S) (X : List (FieldType × Nat)) : (yb_mk s X).2.2.1 176 0 = some 177 := rfl
theorem rR_176_1 (s : yb_S) (X : List (FieldType × Nat)) : (yb_mk s X).2.2.1 176 1 = some 178 := rfl
theorem rR_176_2 (s : yb_S) (X : List (FieldType × Nat)) : (yb_mk s X).2.2.1 176 2 = some 179 := rfl
theorem rR_176_3 (s : yb_S) (X : List (FieldType × Nat)) : (yb_mk s X).2.2.1 176 3 = some 180 := rfl
theorem rR_176_4 (s : yb_S) (X : List (FieldType × Nat)) : (yb_mk s X).2.2.1 176 4 = some 181 := rfl
theorem rR_176_5 (s : yb_S) (X : List (FieldType × Nat)) : (yb_mk s X).2.2.1 176 5 = some 182 := rfl
theorem rR_176_9 (s : yb_S) (X : List (FieldType × Nat)) : (yb_mk s X).2.2.1 176 9 = some 183 := rfl
theorem rR_176_10 (s : yb_S) (X : List (FieldType × Nat)) : (yb_mk s X).2.2.1 176 10 = some 184 := rfl
theorem rR_176_11 (s : yb_S) (X : List (FieldType × Nat)) : (yb_mk s X).2.2.1 176 11 = some 185 := rfl
theorem rR_176_12 (s : yb_S) (X : List (FieldType × Nat)) : (yb_mk s X).2.2.1 176 12 = some 186 := rfl
theorem rR_176_13 (s : yb_S) (X : List (FieldType × Nat)) : (yb_mk s X).2.2.1 176 13 = some 187 := rfl
theorem rR_176_14 (s : yb_S) (X : List (FieldType × Nat)) : (yb_mk s X).2.2.1 176 14 = some 188 := rfl
theorem rR_176_16 (s : yb_S) (X : List (FieldType × Nat)) : (yb_mk s X).2.2.1 176 16 = some 189 := rfl
theorem rR_176_17 (s : yb_S) (X : List (FieldType × Nat)) : (yb_mk s X).2.2.1 176 17 = some 190 := rfl
theorem rR_176_18 (s : yb_S) (X : List (FieldType × Nat)) : (yb_mk s X).2.2.1 176 18 = some 191 := rfl
theorem rR_176_19 (s : yb_S) (X : List (FieldType × Nat)) : (yb_mk s X).2.2.1 176 19 = some 192 := rfl
theorem rR_176_20 (s : yb_S) (X : List (FieldType × Nat)) : (yb_mk s X).2.2.1 176 20 = some 193 := rfl
theorem rR_176_21 (s : yb_S) (X : List (FieldType × Nat)) : (yb_mk s X).2.2.1 176 21 = some 194 := rfl
theorem rR_176_22 (s : yb_S) (X : List (FieldType × Nat)) : (yb_mk s X).2.2.1 176 22 = some 195 := rfl
theorem rR_176_23 (s : yb_S) (X : List (FieldType × Nat)) : (yb_mk s X).2.2.1 176 23 = some 196 := rfl
theorem rR_176_24 (s : yb_S) (X : List (FieldType × Nat)) : (yb_mk s X).2.2.1 176 24 = some 197 := rfl
theorem rR_176_25 (s : yb_S) (X : List (FieldType × Nat)) : (yb_mk s X).2.2.1 176 25 = some 198 := rfl
theorem rR_176_26 (s : yb_S) (X : List (FieldType × Nat)) : (yb_mk s X).2.2.1 176 26 = some 199 := rfl
theorem rR_176_28 (s : yb_S) (X : List (FieldType × Nat)) : (yb_mk s X).2.2.1 176 28 = some 200 := rfl
theorem rR_176_29 (s : yb_S) (X : List (FieldType × Nat)) : (yb_mk s X).2.2.1 176 29 = some 207 := rfl
theorem rR_176_30 (s : yb_S) (X : List (FieldType × Nat)) : (yb_mk s X).2.2.1 176 30 = some 208 := rfl
theorem rR_176_31 (s : yb_S) (X : List (FieldType × Nat)) : (yb_mk s X).2.2.1 176 31 = some 209 := rfl
theorem rR_176_32 (s : yb_S) (X : List (FieldType × Nat)) : (yb_mk s X).2.2.1 176 32 = some 210 := rfl
theorem rR_176_33 (s : yb_S) (X : List (FieldType × Nat)) : (yb_mk s X).2.2.1 176 33 = some 211 := rfl
theorem rR_176_34 (s : yb_S) (X : List (FieldType × Nat)) : (yb_mk s X).2.2.1 176 34 = some 212 := rfl
theorem rR_176_35 (s : yb_S) (X : List (FieldType × Nat)) : (yb_mk s X).2.2.1 176 35 = some 213 := rfl
theorem rR_176_37 (s : yb_S) (X : List (FieldType × Nat)) : (yb_mk s X).2.2.1 176 37 = some 214 := rfl
theorem rR_176_38 (s : yb_S) (X : List (FieldType × Nat)) : (yb_mk s X).2.2.1 176 38 = some 215 := rfl
theorem rR_176_39 (s : yb_S) (X : List (FieldType × Nat)) : (yb_mk s X).2.2.1 176 39 = some 216 := rfl
theorem rR_176_41 (s : yb_S) (X : List (FieldType × Nat)) : (yb_mk s X).2.2.1 176 41 = some 217 := rfl
theorem rR_176_43 (s : yb_S) (X : List (FieldType × Nat)) : (yb_mk s X).2.2.1 176 43 = some 242 := rfl
theorem rR_176_50 (s : yb_S) (X : List (FieldType × Nat)) : (yb_mk s X).2.2.1 176 50 = some 243 := rfl
theorem rR_176_51 (s : yb_S) (X : List (FieldType × Nat)) : (yb_mk s X).2.2.1 176 51 = some 321 := rfl
theorem rR_176_52 (s : yb_S) (X : List (FieldType × Nat)) : (yb_mk s X).2.2.1 176 52 = some 333 := rfl
theorem rR_176_53 (s : yb_S) (X : List (FieldType × Nat)) : (yb_mk s X).2.2.1 176 53 = some 334 := rfl
theorem rR_176_56 (s : yb_S) (X : List (FieldType × Nat)) : (yb_mk s X).2.2.1 176 56 = some 335 := rfl
theorem rR_176_57 (s : yb_S) (X : List (FieldType × Nat)) : (yb_mk s X).2.2.1 176 57 = some 336 := rfl
theorem rR_176_59 (s : yb_S) (X : List (FieldType × Nat)) : (yb_mk s X).2.2.1 176 59 = some 337 := rfl
theorem rR_176_60 (s : yb_S) (X : List (FieldType × Nat)) : (yb_mk s X).2.2.1 176 60 = some 338 := rfl
theorem rR_176_61 (s : yb_S) (X : List (FieldType × Nat)) : (yb_mk s X).2.2.1 176 61 = some 339 := rfl
theorem rR_176_62 (s : yb_S) (X : List (FieldType × Nat)) : (yb_mk s X).2.2.1 176 62 = some 340 := rfl
theorem rR_176_63 (s : yb_S) (X : List (FieldType × Nat)) : (yb_mk s X).2.2.1 176 63 = some 341 := rfl
theorem rR_176_66 (s : yb_S) (X : List (FieldType × Nat)) : (yb_mk s X).2.2.1 176 66 = some 366 := rfl
theorem rR_176_67 (s : yb_S) (X : List (FieldType × Nat)) : (yb_mk s X).2.2.1 176 67 = some 391 := rfl
theorem rR_176_68 (s : yb_S) (X : List (FieldType × Nat)) : (yb_mk s X).2.2.1 176 68 = some 592 := rfl
theorem rR_176_69 (s : yb_S) (X : List (FieldType × Nat)) : (yb_mk s X).2.2.1 176 69 = some 593 := rfl
theorem rR_176_70 (s : yb_S) (X : List (FieldType × Nat)) : (yb_mk s X).2.2.1 176 70 = some 594 := rfl
theorem rR_176_71 (s : yb_S) (X : List (FieldType × Nat)) : (yb_mk s X).2.2.1 176 71 = some 595 := rfl
theorem rR_176_72 (s : yb_S) (X : List (FieldType × Nat)) : (yb_mk s X).2.2.1 176 72 = some 596 := rfl
theorem rR_176_73 (s : yb_S) (X : List (FieldType × Nat)) : (yb_mk s X).2.2.1 176 73 = some 597 := rfl
theorem rR_176_79 (s : yb_S) (X : List (FieldType × Nat)) : (yb_mk s X).2.2.1 176 79 = some 598 := rfl
theorem rR_176_80 (s : yb_S) (X : List (FieldType × Nat)) : (yb_mk s X).2.2.1 176 80 = some 599 := rfl
theorem rR_176_81 (s : yb_S) (X : List (FieldType × Nat)) : (yb_mk s X).2.2.1 176 81 = some 600 := rfl
theorem rR_176_82 (s : yb_S) (X : List (FieldType × Nat)) : (yb_mk s X).2.2.1 176 82 = some 601 := rfl
theorem rR_176_83 (s : yb_S) (X : List (FieldType × Nat)) : (yb_mk s X).2.2.1 176 83 = some 602 := rfl
/-- a row of a table of rows: its cell -/
def yb_ri (b st n : Nat) (i : Int32) : Option Nat := if i < 0 ∨ n ≤ i.toNatClampNeg then none else some (b + st * i.toNatClampNeg)
theorem yb_ri_some {b st n : Nat} {i : Int32} {r : Nat} (h : yb_ri b st n i = some r) : vp_in i n ∧ i.toNatClampNeg < n ∧ r = b + st * i.toNatClampNeg := by
  unfold yb_ri at h
  split at h
  · cases h
  · next hq => exact ⟨hq, yb_lt hq, (Option.some.inj h).symm⟩
def yb_rd (s : yb_S) (id n : Nat) (i : Int32) : Option Int32 := if i < 0 ∨ n ≤ i.toNatClampNeg then none else some (s.1 id i.toNatClampNeg)
theorem yb_rd_some {s : yb_S} {id n : Nat} {i v : Int32} (h : yb_rd s id n i = some v) : vp_in i n ∧ v = s.1 id i.toNatClampNeg := by
  unfold yb_rd at h
  split at h
  · cases h
  · next hq => exact ⟨hq, (Option.some.inj h).symm⟩
def yb_rl (s : yb_S) (id n : Nat) (i : Int32) : Option Int64 := if i < 0 ∨ n ≤ i.toNatClampNeg then none else some (s.2 id i.toNatClampNeg)
theorem yb_rl_some {s : yb_S} {id n : Nat} {i : Int32} {v : Int64} (h : yb_rl s id n i = some v) : vp_in i n ∧ v = s.2 id i.toNatClampNeg := by
  unfold yb_rl at h
  split at h
  · cases h
  · next hq => exact ⟨hq, (Option.some.inj h).symm⟩
def yb_pI (s : yb_S) (id k : Nat) (x : Int32) : yb_S := (yb_u s.1 id k x, s.2)
def yb_pL (s : yb_S) (id k : Nat) (x : Int64) : yb_S := (s.1, yb_u s.2 id k x)
def yb_wr (s : yb_S) (id n : Nat) (i x : Int32) : Option yb_S := if i < 0 ∨ n ≤ i.toNatClampNeg then none else some (yb_pI s id i.toNatClampNeg x)
theorem yb_wr_some {s s' : yb_S} {id n : Nat} {i x : Int32} (h : yb_wr s id n i x = some s') : vp_in i n ∧ s' = yb_pI s id i.toNatClampNeg x := by
  unfold yb_wr at h
  split at h
  · cases h
  · next hq => exact ⟨hq, (Option.some.inj h).symm⟩
def yb_wl (s : yb_S) (id n : Nat) (i : Int32) (x : Int64) : Option yb_S := if i < 0 ∨ n ≤ i.toNatClampNeg then none else some (yb_pL s id i.toNatClampNeg x)
theorem yb_wl_some {s s' : yb_S} {id n : Nat} {i : Int32} {x : Int64} (h : yb_wl s id n i x = some s') : vp_in i n ∧ s' = yb_pL s id i.toNatClampNeg x := by
  unfold yb_wl at h
  split at h
  · cases h
  · next hq => exact ⟨hq, (Option.some.inj h).symm⟩
def yb_rem (x y : Int32) : Int32 := x - x / y * y
def yb_dv (x y : Int32) : Option Int32 := if y = 0 then none else some (x / y)
theorem yb_dv_some {x y v : Int32} (h : yb_dv x y = some v) : ¬ y = 0 ∧ v = x / y := by
  unfold yb_dv at h
  split at h
  · cases h
  · next hq => exact ⟨hq, (Option.some.inj h).symm⟩
theorem yb_bind {α β : Type} {o : Option α} {f : α → Option β} {b : β} (h : o.bind f = some b) : ∃ a, o = some a ∧ f a = some b := Option.bind_eq_some_iff.mp h
theorem yb_ifp {α : Type} {c : Prop} [Decidable c] {a b o : α} (hc : c) (h : (if c then a else b) = o) : a = o := (if_pos hc).symm.trans h
theorem yb_ifn {α : Type} {c : Prop} [Decidable c] {a b o : α} (hc : ¬ c) (h : (if c then a else b) = o) : b = o := (if_neg hc).symm.trans h
/-- a loop, by rounds -/
def yb_it {α β : Type} (F : (α → Option β) → α → Option β) : Nat → α → Option β
  | 0, _ => none
  | n + 1, a => F (yb_it F n) a
/-- rounds enough for any loop here -/
def yb_N : Nat := 4096
def yb_le : List (Option Value) → List (Option Value) → Prop
  | [], _ => True
  | none :: a, [] => yb_le a []
  | none :: a, _ :: b => yb_le a b
  | some x :: a, some y :: b => x = y ∧ yb_le a b
  | some _ :: _, _ => False
theorem yb_le_sub : ∀ {a b : List (Option Value)}, yb_le a b → ∀ (i : Nat) (v : Value), a[i]? = some (some v) → b[i]? = some (some v)
  | [], _, _, i, v, h => by simp at h
  | none :: a, [], hl, i, v, h => by
    cases i with
    | zero => simp at h
    | succ i => exact absurd (yb_le_sub (a := a) (b := []) hl i v (by simpa using h)) (by simp)
  | none :: a, y :: b, hl, i, v, h => by
    cases i with
    | zero => simp at h
    | succ i => simpa using yb_le_sub (a := a) (b := b) hl i v (by simpa using h)
  | some x :: a, some y :: b, hl, i, v, h => by
    obtain ⟨rfl, hl⟩ := hl
    cases i with
    | zero => simpa using h
    | succ i => simpa using yb_le_sub (a := a) (b := b) hl i v (by simpa using h)
  | some _ :: _, [], hl, _, _, _ => hl.elim
  | some _ :: _, none :: _, hl, _, _, _ => hl.elim
def yb_rm (d : Nat) : Room := { frames := d, cells := 0, slots := 0, locals := 64 * d }
theorem yb_rok {d d' m : Nat} (h : d' + 1 ≤ d) (hm : m ≤ 45) : (yb_rm d').frames + 1 ≤ (yb_rm d).frames ∧ 8 + (m + 11) + (yb_rm d').locals ≤ (yb_rm d).locals := by
  simp only [yb_rm]
  omega
def yb_qi (X : List (FieldType × Nat)) (s : yb_S) (x : Int32) : Option Value → yb_M → Prop := fun v M' => v = some (.int x) ∧ M' = yb_mk s X
def yb_ql (X : List (FieldType × Nat)) (s : yb_S) (x : Int64) : Option Value → yb_M → Prop := fun v M' => v = some (.long x) ∧ M' = yb_mk s X
def yb_qv (X : List (FieldType × Nat)) (s : yb_S) : Option Value → yb_M → Prop := fun v M' => v = none ∧ M' = yb_mk s X
theorem yb_okv_b {x : Int32} (h : yb_okv (some .boolean) (some (.int x))) : narrow .boolean (.int x) = .int x := by
  obtain ⟨ty, h1, h2⟩ := h
  cases h1
  exact h2
section YP
variable {G : yb_G} {own : String} {cc : ByteArray} {nL : Nat} {ret : Option FieldType} {ini : Bool} {R : Room} {Q : Option Value → yb_M → Prop} {ce sl pc : Nat} {vs : List (Option Value)} {st : List Value} {s s' : yb_S} {X : List (FieldType × Nat)}
theorem p_jump {vs' : List (Option Value)} {M : yb_M} (h : Rn G own cc nL ret ini R Q ce sl pc vs' st M) (hs : yb_le vs' vs) : Rn G own cc nL ret ini R Q ce sl pc vs st M := h.weak (yb_le_sub hs)
theorem p_irem {x y : Int32} {M : yb_M} (hne : ¬ y = 0) (hd : decode cc pc = .ok (.irem, 1)) (k : Rn G own cc nL ret ini R Q ce sl (pc + 1) vs (.int (yb_rem x y) :: st) M) : Rn G own cc nL ret ini R Q ce sl pc vs (.int y :: .int x :: st) M := n_irem hd hne k
theorem p_dv {x y v : Int32} {M : yb_M} (hv : yb_dv x y = some v) (hd : decode cc pc = .ok (.idiv, 1)) (k : Rn G own cc nL ret ini R Q ce sl (pc + 1) vs (.int v :: st) M) : Rn G own cc nL ret ini R Q ce sl pc vs (.int y :: .int x :: st) M := by
  obtain ⟨h1, rfl⟩ := yb_dv_some hv
  exact n_idiv hd h1 k
theorem p_geti {idx ci k id : Nat} (hf : yb_fl own idx ci k) (hsh : (yb_mk s X).2.2.2.1 id = some (.inl ci)) (hty : yb_small (vwTy ci k) = true) (hd : decode cc pc = .ok (.getfield idx, 3)) (kk : Rn G own cc nL ret ini R Q ce sl (pc + 3) vs (.int (s.1 id k) :: st) (yb_mk s X)) : Rn G own cc nL ret ini R Q ce sl pc vs (.ref (yb_ad G id) :: st) (yb_mk s X) := n_geti hf hsh hty hd kk
theorem p_getr {idx ci k id j : Nat} (hf : yb_fl own idx ci k) (hsh : (yb_mk s X).2.2.2.1 id = some (.inl ci)) (hty : (vwTy ci k).isReference = true) (hR : (yb_mk s X).2.2.1 id k = some j) (hd : decode cc pc = .ok (.getfield idx, 3)) (kk : Rn G own cc nL ret ini R Q ce sl (pc + 3) vs (.ref (yb_ad G j) :: st) (yb_mk s X)) : Rn G own cc nL ret ini R Q ce sl pc vs (.ref (yb_ad G id) :: st) (yb_mk s X) := n_getr hf hsh hty hR hd kk
theorem p_puti {idx ci k id : Nat} {x : Int32} (hv : some (yb_pI s id k x) = some s') (hf : yb_fp own idx ci k) (hsh : (yb_mk s X).2.2.2.1 id = some (.inl ci)) (hty : yb_small (vwTy ci k) = true) (hn : narrow (vwTy ci k) (.int x) = .int x) (hfit : fits (vwTy ci k) (.int x) = true) (hd : decode cc pc = .ok (.putfield idx, 3)) (kk : Rn G own cc nL ret ini R Q ce sl (pc + 3) vs st (yb_mk s' X)) : Rn G own cc nL ret ini R Q ce sl pc vs (.int x :: .ref (yb_ad G id) :: st) (yb_mk s X) := by
  cases hv
  exact n_puti hf hsh hty hn hfit hd kk
theorem p_iald {id n : Nat} {i v : Int32} (hv : yb_rd s id n i = some v) (hsh : (yb_mk s X).2.2.2.1 id = some (.inr (.int, n))) (hd : decode cc pc = .ok (.iaload, 1)) (kk : Rn G own cc nL ret ini R Q ce sl (pc + 1) vs (.int v :: st) (yb_mk s X)) : Rn G own cc nL ret ini R Q ce sl pc vs (.int i :: .ref (yb_ad G id) :: st) (yb_mk s X) := by
  obtain ⟨h1, rfl⟩ := yb_rd_some hv
  exact n_iald hsh h1 hd kk
theorem p_bald {id n : Nat} {i v : Int32} (hv : yb_rd s id n i = some v) (hsh : (yb_mk s X).2.2.2.1 id = some (.inr (.byte, n))) (hd : decode cc pc = .ok (.baload, 1)) (kk : Rn G own cc nL ret ini R Q ce sl (pc + 1) vs (.int v :: st) (yb_mk s X)) : Rn G own cc nL ret ini R Q ce sl pc vs (.int i :: .ref (yb_ad G id) :: st) (yb_mk s X) := by
  obtain ⟨h1, rfl⟩ := yb_rd_some hv
  exact n_bald hsh h1 hd kk
theorem p_zald {id n : Nat} {i v : Int32} (hv : yb_rd s id n i = some v) (hsh : (yb_mk s X).2.2.2.1 id = some (.inr (.boolean, n))) (hd : decode cc pc = .ok (.baload, 1)) (kk : Rn G own cc nL ret ini R Q ce sl (pc + 1) vs (.int v :: st) (yb_mk s X)) : Rn G own cc nL ret ini R Q ce sl pc vs (.int i :: .ref (yb_ad G id) :: st) (yb_mk s X) := by
  obtain ⟨h1, rfl⟩ := yb_rd_some hv
  exact n_zald hsh h1 hd kk
theorem p_lald {id n : Nat} {i : Int32} {v : Int64} (hv : yb_rl s id n i = some v) (hsh : (yb_mk s X).2.2.2.1 id = some (.inr (.long, n))) (hd : decode cc pc = .ok (.laload, 1)) (kk : Rn G own cc nL ret ini R Q ce sl (pc + 1) vs (.long v :: st) (yb_mk s X)) : Rn G own cc nL ret ini R Q ce sl pc vs (.int i :: .ref (yb_ad G id) :: st) (yb_mk s X) := by
  obtain ⟨h1, rfl⟩ := yb_rl_some hv
  exact n_lald hsh h1 hd kk
theorem p_aald {id n b sp r : Nat} {i : Int32} {ty : FieldType} (hv : yb_ri b sp n i = some r) (hsh : (yb_mk s X).2.2.2.1 id = some (.inr (ty, n))) (ht : ty ∈ yb_tys) (hty : ty.isReference = true) (hR : ∀ k, k < n → (yb_mk s X).2.2.1 id k = some (b + sp * k)) (hd : decode cc pc = .ok (.aaload, 1)) (kk : Rn G own cc nL ret ini R Q ce sl (pc + 1) vs (.ref (yb_ad G r) :: st) (yb_mk s X)) : Rn G own cc nL ret ini R Q ce sl pc vs (.int i :: .ref (yb_ad G id) :: st) (yb_mk s X) := by
  obtain ⟨h1, h2, rfl⟩ := yb_ri_some hv
  exact n_aald hsh ht hty h1 (hR _ h2) hd kk
theorem p_iast {id n : Nat} {i x : Int32} (hv : yb_wr s id n i x = some s') (hsh : (yb_mk s X).2.2.2.1 id = some (.inr (.int, n))) (hd : decode cc pc = .ok (.iastore, 1)) (kk : Rn G own cc nL ret ini R Q ce sl (pc + 1) vs st (yb_mk s' X)) : Rn G own cc nL ret ini R Q ce sl pc vs (.int x :: .int i :: .ref (yb_ad G id) :: st) (yb_mk s X) := by
  obtain ⟨h1, rfl⟩ := yb_wr_some hv
  exact n_iast hsh h1 hd kk
theorem p_bast {id n : Nat} {i x : Int32} (hv : yb_wr s id n i (vp_nar .byte x) = some s') (hsh : (yb_mk s X).2.2.2.1 id = some (.inr (.byte, n))) (hd : decode cc pc = .ok (.bastore, 1)) (kk : Rn G own cc nL ret ini R Q ce sl (pc + 1) vs st (yb_mk s' X)) : Rn G own cc nL ret ini R Q ce sl pc vs (.int x :: .int i :: .ref (yb_ad G id) :: st) (yb_mk s X) := by
  obtain ⟨h1, rfl⟩ := yb_wr_some hv
  exact n_bast hsh h1 hd kk
theorem p_zast {id n : Nat} {i x : Int32} (hv : yb_wr s id n i (vp_nar .boolean x) = some s') (hsh : (yb_mk s X).2.2.2.1 id = some (.inr (.boolean, n))) (hd : decode cc pc = .ok (.bastore, 1)) (kk : Rn G own cc nL ret ini R Q ce sl (pc + 1) vs st (yb_mk s' X)) : Rn G own cc nL ret ini R Q ce sl pc vs (.int x :: .int i :: .ref (yb_ad G id) :: st) (yb_mk s X) := by
  obtain ⟨h1, rfl⟩ := yb_wr_some hv
  exact n_zast hsh h1 hd kk
theorem p_last {id n : Nat} {i : Int32} {x : Int64} (hv : yb_wl s id n i x = some s') (hsh : (yb_mk s X).2.2.2.1 id = some (.inr (.long, n))) (hd : decode cc pc = .ok (.lastore, 1)) (kk : Rn G own cc nL ret ini R Q ce sl (pc + 1) vs st (yb_mk s' X)) : Rn G own cc nL ret ini R Q ce sl pc vs (.long x :: .int i :: .ref (yb_ad G id) :: st) (yb_mk s X) := by
  obtain ⟨h1, rfl⟩ := yb_wl_some hv
  exact n_last hsh h1 hd kk
theorem p_alen {id n : Nat} {ty : FieldType} {v : Int32} (hsh : (yb_mk s X).2.2.2.1 id = some (.inr (ty, n))) (ht : ty ∈ yb_tys) (hv : Int32.ofNat n = v) (hd : decode cc pc = .ok (.arraylength, 1)) (kk : Rn G own cc nL ret ini R Q ce sl (pc + 1) vs (.int v :: st) (yb_mk s X)) : Rn G own cc nL ret ini R Q ce sl pc vs (.ref (yb_ad G id) :: st) (yb_mk s X) := by
  subst hv
  exact n_alen hsh ht hd kk
theorem p_callVi {index ci id n maxL : Nat} {y : MethodName} {bytes : ByteArray} {rt : Option FieldType} {rm : Room} {As st0 : List Value} {x : Int32} (hM : Ct G y bytes maxL rt rm (.ref (yb_ad G id) :: As) (yb_mk s X) (yb_qi X s' x)) (hw : yb_cV own index ci y bytes maxL rt n) (hsh : (yb_mk s X).2.2.2.1 id = some (.inl ci)) (hn : As.length = n) (hst : st0 = As.reverse ++ .ref (yb_ad G id) :: st) (hsum : (st.map fun v => v.category).sum ≤ 8) (hd : decode cc pc = .ok (.invokevirtual index, 3)) (hR : rm.frames + 1 ≤ R.frames ∧ 8 + (maxL + 11) + rm.locals ≤ R.locals) (hc : rm.cells = 0 ∧ rm.slots = 0) (hz : ce ≤ R.cells ∧ sl ≤ R.slots) (kk : yb_okv rt (some (.int x)) → Rn G own cc nL ret ini R Q ce sl (pc + 3) vs (.int x :: st) (yb_mk s' X)) : Rn G own cc nL ret ini R Q ce sl pc vs st0 (yb_mk s X) := by
  refine n_callV hM hw hsh hn hst hsum hd hR ⟨by rw [hc.1]; exact hz.1, by rw [hc.2]; exact hz.2⟩ (fun v M' hok hq => ?_)
  obtain ⟨rfl, rfl⟩ := hq
  rw [hc.1, hc.2]
  exact kk hok
theorem p_callSi {index n maxL : Nat} {y : MethodName} {bytes : ByteArray} {rt : Option FieldType} {rm : Room} {As st0 : List Value} {x : Int32} (hM : Ct G y bytes maxL rt rm As (yb_mk s X) (yb_qi X s' x)) (hw : yb_cS own index y bytes maxL rt n) (hn : As.length = n) (hst : st0 = As.reverse ++ st) (hsum : (st.map fun v => v.category).sum ≤ 8) (hd : decode cc pc = .ok (.invokestatic index, 3)) (hR : rm.frames + 1 ≤ R.frames ∧ 8 + (maxL + 11) + rm.locals ≤ R.locals) (hc : rm.cells = 0 ∧ rm.slots = 0) (hz : ce ≤ R.cells ∧ sl ≤ R.slots) (kk : yb_okv rt (some (.int x)) → Rn G own cc nL ret ini R Q ce sl (pc + 3) vs (.int x :: st) (yb_mk s' X)) : Rn G own cc nL ret ini R Q ce sl pc vs st0 (yb_mk s X) := by
  refine n_callS hM hw hn hst hsum hd hR ⟨by rw [hc.1]; exact hz.1, by rw [hc.2]; exact hz.2⟩ (fun v M' hok hq => ?_)
  obtain ⟨rfl, rfl⟩ := hq
  rw [hc.1, hc.2]
  exact kk hok
theorem p_callVl {index ci id n maxL : Nat} {y : MethodName} {bytes : ByteArray} {rt : Option FieldType} {rm : Room} {As st0 : List Value} {x : Int64} (hM : Ct G y bytes maxL rt rm (.ref (yb_ad G id) :: As) (yb_mk s X) (yb_ql X s' x)) (hw : yb_cV own index ci y bytes maxL rt n) (hsh : (yb_mk s X).2.2.2.1 id = some (.inl ci)) (hn : As.length = n) (hst : st0 = As.reverse ++ .ref (yb_ad G id) :: st) (hsum : (st.map fun v => v.category).sum ≤ 8) (hd : decode cc pc = .ok (.invokevirtual index, 3)) (hR : rm.frames + 1 ≤ R.frames ∧ 8 + (maxL + 11) + rm.locals ≤ R.locals) (hc : rm.cells = 0 ∧ rm.slots = 0) (hz : ce ≤ R.cells ∧ sl ≤ R.slots) (kk : yb_okv rt (some (.long x)) → Rn G own cc nL ret ini R Q ce sl (pc + 3) vs (.long x :: st) (yb_mk s' X)) : Rn G own cc nL ret ini R Q ce sl pc vs st0 (yb_mk s X) := by
  refine n_callV hM hw hsh hn hst hsum hd hR ⟨by rw [hc.1]; exact hz.1, by rw [hc.2]; exact hz.2⟩ (fun v M' hok hq => ?_)
  obtain ⟨rfl, rfl⟩ := hq
  rw [hc.1, hc.2]
  exact kk hok
theorem p_callSl {index n maxL : Nat} {y : MethodName} {bytes : ByteArray} {rt : Option FieldType} {rm : Room} {As st0 : List Value} {x : Int64} (hM : Ct G y bytes maxL rt rm As (yb_mk s X) (yb_ql X s' x)) (hw : yb_cS own index y bytes maxL rt n) (hn : As.length = n) (hst : st0 = As.reverse ++ st) (hsum : (st.map fun v => v.category).sum ≤ 8) (hd : decode cc pc = .ok (.invokestatic index, 3)) (hR : rm.frames + 1 ≤ R.frames ∧ 8 + (maxL + 11) + rm.locals ≤ R.locals) (hc : rm.cells = 0 ∧ rm.slots = 0) (hz : ce ≤ R.cells ∧ sl ≤ R.slots) (kk : yb_okv rt (some (.long x)) → Rn G own cc nL ret ini R Q ce sl (pc + 3) vs (.long x :: st) (yb_mk s' X)) : Rn G own cc nL ret ini R Q ce sl pc vs st0 (yb_mk s X) := by
  refine n_callS hM hw hn hst hsum hd hR ⟨by rw [hc.1]; exact hz.1, by rw [hc.2]; exact hz.2⟩ (fun v M' hok hq => ?_)
  obtain ⟨rfl, rfl⟩ := hq
  rw [hc.1, hc.2]
  exact kk hok
theorem p_callVv {index ci id n maxL : Nat} {y : MethodName} {bytes : ByteArray} {rt : Option FieldType} {rm : Room} {As st0 : List Value} (hM : Ct G y bytes maxL rt rm (.ref (yb_ad G id) :: As) (yb_mk s X) (yb_qv X s')) (hw : yb_cV own index ci y bytes maxL rt n) (hsh : (yb_mk s X).2.2.2.1 id = some (.inl ci)) (hn : As.length = n) (hst : st0 = As.reverse ++ .ref (yb_ad G id) :: st) (hsum : (st.map fun v => v.category).sum ≤ 8) (hd : decode cc pc = .ok (.invokevirtual index, 3)) (hR : rm.frames + 1 ≤ R.frames ∧ 8 + (maxL + 11) + rm.locals ≤ R.locals) (hc : rm.cells = 0 ∧ rm.slots = 0) (hz : ce ≤ R.cells ∧ sl ≤ R.slots) (kk : yb_okv rt none → Rn G own cc nL ret ini R Q ce sl (pc + 3) vs st (yb_mk s' X)) : Rn G own cc nL ret ini R Q ce sl pc vs st0 (yb_mk s X) := by
  refine n_callV hM hw hsh hn hst hsum hd hR ⟨by rw [hc.1]; exact hz.1, by rw [hc.2]; exact hz.2⟩ (fun v M' hok hq => ?_)
  obtain ⟨rfl, rfl⟩ := hq
  rw [hc.1, hc.2]
  exact kk hok
theorem p_callSv {index n maxL : Nat} {y : MethodName} {bytes : ByteArray} {rt : Option FieldType} {rm : Room} {As st0 : List Value} (hM : Ct G y bytes maxL rt rm As (yb_mk s X) (yb_qv X s')) (hw : yb_cS own index y bytes maxL rt n) (hn : As.length = n) (hst : st0 = As.reverse ++ st) (hsum : (st.map fun v => v.category).sum ≤ 8) (hd : decode cc pc = .ok (.invokestatic index, 3)) (hR : rm.frames + 1 ≤ R.frames ∧ 8 + (maxL + 11) + rm.locals ≤ R.locals) (hc : rm.cells = 0 ∧ rm.slots = 0) (hz : ce ≤ R.cells ∧ sl ≤ R.slots) (kk : yb_okv rt none → Rn G own cc nL ret ini R Q ce sl (pc + 3) vs st (yb_mk s' X)) : Rn G own cc nL ret ini R Q ce sl pc vs st0 (yb_mk s X) := by
  refine n_callS hM hw hn hst hsum hd hR ⟨by rw [hc.1]; exact hz.1, by rw [hc.2]; exact hz.2⟩ (fun v M' hok hq => ?_)
  obtain ⟨rfl, rfl⟩ := hq
  rw [hc.1, hc.2]
  exact kk hok
end YP
theorem rF_34 (s : yb_S) (X : List (FieldType × Nat)) : ∀ k, k < 6 → (yb_mk s X).2.2.1 34 k = some (35 + 1 * k) := fun k hk => (show yb_R0 34 k = _ from if_pos hk)
theorem shf_34 : ∀ k, k < 6 → yb_sh0 (35 + 1 * k) = some (.inr (.int, 6)) := by decide +kernel
theorem shF_34 {i : Int32} {r : Nat} (h : yb_ri 35 1 6 i = some r) (s : yb_S) (X : List (FieldType × Nat)) : (yb_mk s X).2.2.2.1 r = some (.inr (.int, 6)) := by
  obtain ⟨-, h2, rfl⟩ := yb_ri_some h
  refine (if_pos (show 35 + 1 * i.toNatClampNeg < 603 by omega)).trans ?_
  exact shf_34 _ h2
theorem rF_57 (s : yb_S) (X : List (FieldType × Nat)) : ∀ k, k < 10 → (yb_mk s X).2.2.1 57 k = some (58 + 1 * k) := fun k hk => (show yb_R0 57 k = _ from if_pos hk)
theorem shf_57 : ∀ k, k < 10 → yb_sh0 (58 + 1 * k) = some (.inr (.int, 500)) := by decide +kernel
theorem shF_57 {i : Int32} {r : Nat} (h : yb_ri 58 1 10 i = some r) (s : yb_S) (X : List (FieldType × Nat)) : (yb_mk s X).2.2.2.1 r = some (.inr (.int, 500)) := by
  obtain ⟨-, h2, rfl⟩ := yb_ri_some h
  refine (if_pos (show 58 + 1 * i.toNatClampNeg < 603 by omega)).trans ?_
  exact shf_57 _ h2
theorem rF_68 (s : yb_S) (X : List (FieldType × Nat)) : ∀ k, k < 10 → (yb_mk s X).2.2.1 68 k = some (69 + 1 * k) := fun k hk => (show yb_R0 68 k = _ from if_pos hk)
theorem shf_68 : ∀ k, k < 10 → yb_sh0 (69 + 1 * k) = some (.inr (.int, 6)) := by decide +kernel
theorem shF_68 {i : Int32} {r : Nat} (h : yb_ri 69 1 10 i = some r) (s : yb_S) (X : List (FieldType × Nat)) : (yb_mk s X).2.2.2.1 r = some (.inr (.int, 6)) := by
  obtain ⟨-, h2, rfl⟩ := yb_ri_some h
  refine (if_pos (show 69 + 1 * i.toNatClampNeg < 603 by omega)).trans ?_
  exact shf_68 _ h2
theorem rF_79 (s : yb_S) (X : List (FieldType × Nat)) : ∀ k, k < 10 → (yb_mk s X).2.2.1 79 k = some (80 + 1 * k) := fun k hk => (show yb_R0 79 k = _ from if_pos hk)
theorem shf_79 : ∀ k, k < 10 → yb_sh0 (80 + 1 * k) = some (.inr (.int, 6)) := by decide +kernel
theorem shF_79 {i : Int32} {r : Nat} (h : yb_ri 80 1 10 i = some r) (s : yb_S) (X : List (FieldType × Nat)) : (yb_mk s X).2.2.2.1 r = some (.inr (.int, 6)) := by
  obtain ⟨-, h2, rfl⟩ := yb_ri_some h
  refine (if_pos (show 80 + 1 * i.toNatClampNeg < 603 by omega)).trans ?_
  exact shf_79 _ h2
theorem rF_103 (s : yb_S) (X : List (FieldType × Nat)) : ∀ k, k < 24 → (yb_mk s X).2.2.1 103 k = some (104 + 1 * k) := fun k hk => (show yb_R0 103 k = _ from if_pos hk)
theorem shf_103 : ∀ k, k < 24 → yb_sh0 (104 + 1 * k) = some (.inr (.int, 24)) := by decide +kernel
theorem shF_103 {i : Int32} {r : Nat} (h : yb_ri 104 1 24 i = some r) (s : yb_S) (X : List (FieldType × Nat)) : (yb_mk s X).2.2.2.1 r = some (.inr (.int, 24)) := by
  obtain ⟨-, h2, rfl⟩ := yb_ri_some h
  refine (if_pos (show 104 + 1 * i.toNatClampNeg < 603 by omega)).trans ?_
  exact shf_103 _ h2
theorem rF_138 (s : yb_S) (X : List (FieldType × Nat)) : ∀ k, k < 24 → (yb_mk s X).2.2.1 138 k = some (139 + 1 * k) := fun k hk => (show yb_R0 138 k = _ from if_pos hk)
theorem shf_138 : ∀ k, k < 24 → yb_sh0 (139 + 1 * k) = some (.inr (.int, 200)) := by decide +kernel
theorem shF_138 {i : Int32} {r : Nat} (h : yb_ri 139 1 24 i = some r) (s : yb_S) (X : List (FieldType × Nat)) : (yb_mk s X).2.2.2.1 r = some (.inr (.int, 200)) := by
  obtain ⟨-, h2, rfl⟩ := yb_ri_some h
  refine (if_pos (show 139 + 1 * i.toNatClampNeg < 603 by omega)).trans ?_
  exact shf_138 _ h2
theorem rF_163 (s : yb_S) (X : List (FieldType × Nat)) : ∀ k, k < 8 → (yb_mk s X).2.2.1 163 k = some (164 + 1 * k) := fun k hk => (show yb_R0 163 k = _ from if_pos hk)
theorem shf_163 : ∀ k, k < 8 → yb_sh0 (164 + 1 * k) = some (.inr (.int, 200)) := by decide +kernel
theorem shF_163 {i : Int32} {r : Nat} (h : yb_ri 164 1 8 i = some r) (s : yb_S) (X : List (FieldType × Nat)) : (yb_mk s X).2.2.2.1 r = some (.inr (.int, 200)) := by
  obtain ⟨-, h2, rfl⟩ := yb_ri_some h
  refine (if_pos (show 164 + 1 * i.toNatClampNeg < 603 by omega)).trans ?_
  exact shf_163 _ h2
theorem rF_200 (s : yb_S) (X : List (FieldType × Nat)) : ∀ k, k < 6 → (yb_mk s X).2.2.1 200 k = some (201 + 1 * k) := fun k hk => (show yb_R0 200 k = _ from if_pos hk)
theorem shf_200 : ∀ k, k < 6 → yb_sh0 (201 + 1 * k) = some (.inr (.int, 6)) := by decide +kernel
theorem shF_200 {i : Int32} {r : Nat} (h : yb_ri 201 1 6 i = some r) (s : yb_S) (X : List (FieldType × Nat)) : (yb_mk s X).2.2.2.1 r = some (.inr (.int, 6)) := by
  obtain ⟨-, h2, rfl⟩ := yb_ri_some h
  refine (if_pos (show 201 + 1 * i.toNatClampNeg < 603 by omega)).trans ?_
  exact shf_200 _ h2
theorem rF_217 (s : yb_S) (X : List (FieldType × Nat)) : ∀ k, k < 24 → (yb_mk s X).2.2.1 217 k = some (218 + 1 * k) := fun k hk => (show yb_R0 217 k = _ from if_pos hk)
theorem shf_217 : ∀ k, k < 24 → yb_sh0 (218 + 1 * k) = some (.inr (.int, 24)) := by decide +kernel
theorem shF_217 {i : Int32} {r : Nat} (h : yb_ri 218 1 24 i = some r) (s : yb_S) (X : List (FieldType × Nat)) : (yb_mk s X).2.2.2.1 r = some (.inr (.int, 24)) := by
  obtain ⟨-, h2, rfl⟩ := yb_ri_some h
  refine (if_pos (show 218 + 1 * i.toNatClampNeg < 603 by omega)).trans ?_
  exact shf_217 _ h2
theorem rF_243 (s : yb_S) (X : List (FieldType × Nat)) : ∀ k, k < 11 → (yb_mk s X).2.2.1 243 k = some (244 + 7 * k) := fun k hk => (show yb_R0 243 k = _ from if_pos hk)
theorem shf_243 : ∀ k, k < 11 → yb_sh0 (244 + 7 * k) = some (.inr (.array .int, 6)) := by decide +kernel
theorem shF_243 {i : Int32} {r : Nat} (h : yb_ri 244 7 11 i = some r) (s : yb_S) (X : List (FieldType × Nat)) : (yb_mk s X).2.2.2.1 r = some (.inr (.array .int, 6)) := by
  obtain ⟨-, h2, rfl⟩ := yb_ri_some h
  refine (if_pos (show 244 + 7 * i.toNatClampNeg < 603 by omega)).trans ?_
  exact shf_243 _ h2
theorem rF_321 (s : yb_S) (X : List (FieldType × Nat)) : ∀ k, k < 11 → (yb_mk s X).2.2.1 321 k = some (322 + 1 * k) := fun k hk => (show yb_R0 321 k = _ from if_pos hk)
theorem shf_321 : ∀ k, k < 11 → yb_sh0 (322 + 1 * k) = some (.inr (.int, 6)) := by decide +kernel
theorem shF_321 {i : Int32} {r : Nat} (h : yb_ri 322 1 11 i = some r) (s : yb_S) (X : List (FieldType × Nat)) : (yb_mk s X).2.2.2.1 r = some (.inr (.int, 6)) := by
  obtain ⟨-, h2, rfl⟩ := yb_ri_some h
  refine (if_pos (show 322 + 1 * i.toNatClampNeg < 603 by omega)).trans ?_
  exact shf_321 _ h2
theorem rF_335 (s : yb_S) (X : List (FieldType × Nat)) : ∀ k, k < 6 → (yb_mk s X).2.2.1 335 k = some (100001 + 1 * k) := fun k hk => (show yb_R0 335 k = _ from if_pos hk)
theorem rF_336 (s : yb_S) (X : List (FieldType × Nat)) : ∀ k, k < 18 → (yb_mk s X).2.2.1 336 k = some (100007 + 1 * k) := fun k hk => (show yb_R0 336 k = _ from if_pos hk)
theorem rF_341 (s : yb_S) (X : List (FieldType × Nat)) : ∀ k, k < 24 → (yb_mk s X).2.2.1 341 k = some (342 + 1 * k) := fun k hk => (show yb_R0 341 k = _ from if_pos hk)
theorem shf_341 : ∀ k, k < 24 → yb_sh0 (342 + 1 * k) = some (.inr (.int, 24)) := by decide +kernel
theorem shF_341 {i : Int32} {r : Nat} (h : yb_ri 342 1 24 i = some r) (s : yb_S) (X : List (FieldType × Nat)) : (yb_mk s X).2.2.2.1 r = some (.inr (.int, 24)) := by
  obtain ⟨-, h2, rfl⟩ := yb_ri_some h
  refine (if_pos (show 342 + 1 * i.toNatClampNeg < 603 by omega)).trans ?_
  exact shf_341 _ h2
theorem rF_366 (s : yb_S) (X : List (FieldType × Nat)) : ∀ k, k < 24 → (yb_mk s X).2.2.1 366 k = some (367 + 1 * k) := fun k hk => (show yb_R0 366 k = _ from if_pos hk)
theorem shf_366 : ∀ k, k < 24 → yb_sh0 (367 + 1 * k) = some (.inr (.int, 200)) := by decide +kernel
theorem shF_366 {i : Int32} {r : Nat} (h : yb_ri 367 1 24 i = some r) (s : yb_S) (X : List (FieldType × Nat)) : (yb_mk s X).2.2.2.1 r = some (.inr (.int, 200)) := by
  obtain ⟨-, h2, rfl⟩ := yb_ri_some h
  refine (if_pos (show 367 + 1 * i.toNatClampNeg < 603 by omega)).trans ?_
  exact shf_366 _ h2
theorem rF_391 (s : yb_S) (X : List (FieldType × Nat)) : ∀ k, k < 200 → (yb_mk s X).2.2.1 391 k = some (392 + 1 * k) := fun k hk => (show yb_R0 391 k = _ from if_pos hk)
theorem shf_391 : ∀ k, k < 200 → yb_sh0 (392 + 1 * k) = some (.inr (.long, 5)) := by decide +kernel
theorem shF_391 {i : Int32} {r : Nat} (h : yb_ri 392 1 200 i = some r) (s : yb_S) (X : List (FieldType × Nat)) : (yb_mk s X).2.2.2.1 r = some (.inr (.long, 5)) := by
  obtain ⟨-, h2, rfl⟩ := yb_ri_some h
  refine (if_pos (show 392 + 1 * i.toNatClampNeg < 603 by omega)).trans ?_
  exact shf_391 _ h2
theorem rG_243 {i : Int32} {r : Nat} (h : yb_ri 244 7 11 i = some r) (s : yb_S) (X : List (FieldType × Nat)) : ∀ k, k < 6 → (yb_mk s X).2.2.1 r k = some (r + 1 + 1 * k) := by
  obtain ⟨-, h2, rfl⟩ := yb_ri_some h
  have hz : ∀ j, j < 11 → ∀ k, k < 6 → yb_R0 (244 + 7 * j) k = some (244 + 7 * j + 1 + 1 * k) := by decide +kernel
  exact fun k hk => hz _ h2 k hk
theorem shG_243 {i i2 : Int32} {r r2 : Nat} (h : yb_ri 244 7 11 i = some r) (h2 : yb_ri (r + 1) 1 6 i2 = some r2) (s : yb_S) (X : List (FieldType × Nat)) : (yb_mk s X).2.2.2.1 r2 = some (.inr (.int, 1040)) := by
  obtain ⟨-, k1, rfl⟩ := yb_ri_some h
  obtain ⟨-, k2, rfl⟩ := yb_ri_some h2
  have hz : ∀ j, j < 11 → ∀ k, k < 6 → yb_sh0 (244 + 7 * j + 1 + 1 * k) = some (.inr (.int, 1040)) := by decide +kernel
  refine (if_pos (show 244 + 7 * i.toNatClampNeg + 1 + 1 * i2.toNatClampNeg < 603 by omega)).trans ?_
  exact hz _ k1 _ k2
