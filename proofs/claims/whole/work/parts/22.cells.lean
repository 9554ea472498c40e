/-! the cells behind the constructors: what never changes of them (an array: kind, length; an object: class, its references; none: a number) -/
abbrev rz_C : Type := (Nat × Nat) ⊕ ((Nat × List (Option Nat)) ⊕ (Nat × List (Option Value)))
def rz_T : List rz_C := [.inr (.inr (11, [(some (.ref 1)), (some (.ref 3)), (some (.ref 6)), (some (.ref 37)), (some (.ref 39)), (some (.ref 108)), (some (.ref 115)), none, none])),
  .inr (.inr (10, [(some (.ref 2)), none, none, none])),
  .inl (0, 400),
  .inr (.inr (9, [none, none, none, none, (some (.ref 4)), none, none, (some (.ref 5)), none, none])),
  .inl (0, 40),
  .inl (0, 32),
  .inr (.inr (4, [none, none, none, (some (.ref 3)), (some (.ref 7)), (some (.ref 8)), (some (.ref 9)), (some (.ref 10)), (some (.ref 11)), (some (.ref 12))])),
  .inr (.inl (4, [some 13, some 15, some 17, some 19, some 21, some 23, some 25, some 27, some 29, some 31, some 33, some 35])),
  .inl (0, 8),
  .inl (0, 10),
  .inl (0, 68),
  .inl (0, 85),
  .inl (0, 85),
  .inr (.inr (8, [none, none, (some (.ref 14)), none, none, none, none, none])),
  .inl (0, 1000),
  .inr (.inr (8, [none, none, (some (.ref 16)), none, none, none, none, none])),
  .inl (0, 1000),
  .inr (.inr (8, [none, none, (some (.ref 18)), none, none, none, none, none])),
  .inl (0, 1000),
  .inr (.inr (8, [none, none, (some (.ref 20)), none, none, none, none, none])),
  .inl (0, 880),
  .inr (.inr (8, [none, none, (some (.ref 22)), none, none, none, none, none])),
  .inl (0, 880),
  .inr (.inr (8, [none, none, (some (.ref 24)), none, none, none, none, none])),
  .inl (0, 880),
  .inr (.inr (8, [none, none, (some (.ref 26)), none, none, none, none, none])),
  .inl (0, 760),
  .inr (.inr (8, [none, none, (some (.ref 28)), none, none, none, none, none])),
  .inl (0, 760),
  .inr (.inr (8, [none, none, (some (.ref 30)), none, none, none, none, none])),
  .inl (0, 760),
  .inr (.inr (8, [none, none, (some (.ref 32)), none, none, none, none, none])),
  .inl (0, 640),
  .inr (.inr (8, [none, none, (some (.ref 34)), none, none, none, none, none])),
  .inl (0, 640),
  .inr (.inr (8, [none, none, (some (.ref 36)), none, none, none, none, none])),
  .inl (0, 640),
  .inr (.inr (7, [none, none, none, none, none, none, none, (some (.ref 38)), none, none])),
  .inl (0, 2048),
  .inr (.inr (5, [(some (.ref 3)), (some (.ref 6)), (some (.ref 1)), (some (.ref 44)), (some (.ref 46)), (some (.ref 40)), none, (some (.ref 41)), (some (.ref 42)), none, none, none])),
  .inl (0, 64),
  .inr (.inl (3, [some 48, some 52, some 56, some 60, some 64, some 68, some 72, some 76, some 80, some 84, some 88, some 92, some 96, some 100, some 104])),
  .inr (.inr (6, [(some (.ref 43)), none])),
  .inl (0, 10),
  .inr (.inr (0, [(some (.ref 45)), none, none, (some (.ref 6))])),
  .inl (0, 64),
  .inr (.inr (3, [(some (.ref 47)), none, none, none, none, none, none, (some (.ref 6)), (some (.ref 3))])),
  .inl (0, 64),
  .inr (.inr (1, [none, (some (.ref 49)), none, none, none, none, none, none, none, none, none, none, none, none, (some (.ref 50)), none])),
  .inl (0, 64),
  .inr (.inr (6, [(some (.ref 51)), none])),
  .inl (0, 10),
  .inr (.inr (1, [none, (some (.ref 53)), none, none, none, none, none, none, none, none, none, none, none, none, (some (.ref 54)), none])),
  .inl (0, 64),
  .inr (.inr (6, [(some (.ref 55)), none])),
  .inl (0, 10),
  .inr (.inr (1, [none, (some (.ref 57)), none, none, none, none, none, none, none, none, none, none, none, none, (some (.ref 58)), none])),
  .inl (0, 64),
  .inr (.inr (6, [(some (.ref 59)), none])),
  .inl (0, 10),
  .inr (.inr (1, [none, (some (.ref 61)), none, none, none, none, none, none, none, none, none, none, none, none, (some (.ref 62)), none])),
  .inl (0, 64),
  .inr (.inr (6, [(some (.ref 63)), none])),
  .inl (0, 10),
  .inr (.inr (1, [none, (some (.ref 65)), none, none, none, none, none, none, none, none, none, none, none, none, (some (.ref 66)), none])),
  .inl (0, 64),
  .inr (.inr (6, [(some (.ref 67)), none])),
  .inl (0, 10),
  .inr (.inr (1, [none, (some (.ref 69)), none, none, none, none, none, none, none, none, none, none, none, none, (some (.ref 70)), none])),
  .inl (0, 64),
  .inr (.inr (6, [(some (.ref 71)), none])),
  .inl (0, 10),
  .inr (.inr (1, [none, (some (.ref 73)), none, none, none, none, none, none, none, none, none, none, none, none, (some (.ref 74)), none])),
  .inl (0, 64),
  .inr (.inr (6, [(some (.ref 75)), none])),
  .inl (0, 10),
  .inr (.inr (1, [none, (some (.ref 77)), none, none, none, none, none, none, none, none, none, none, none, none, (some (.ref 78)), none])),
  .inl (0, 64),
  .inr (.inr (6, [(some (.ref 79)), none])),
  .inl (0, 10),
  .inr (.inr (1, [none, (some (.ref 81)), none, none, none, none, none, none, none, none, none, none, none, none, (some (.ref 82)), none])),
  .inl (0, 64),
  .inr (.inr (6, [(some (.ref 83)), none])),
  .inl (0, 10),
  .inr (.inr (1, [none, (some (.ref 85)), none, none, none, none, none, none, none, none, none, none, none, none, (some (.ref 86)), none])),
  .inl (0, 64),
  .inr (.inr (6, [(some (.ref 87)), none])),
  .inl (0, 10),
  .inr (.inr (1, [none, (some (.ref 89)), none, none, none, none, none, none, none, none, none, none, none, none, (some (.ref 90)), none])),
  .inl (0, 64),
  .inr (.inr (6, [(some (.ref 91)), none])),
  .inl (0, 10),
  .inr (.inr (1, [none, (some (.ref 93)), none, none, none, none, none, none, none, none, none, none, none, none, (some (.ref 94)), none])),
  .inl (0, 64),
  .inr (.inr (6, [(some (.ref 95)), none])),
  .inl (0, 10),
  .inr (.inr (1, [none, (some (.ref 97)), none, none, none, none, none, none, none, none, none, none, none, none, (some (.ref 98)), none])),
  .inl (0, 64),
  .inr (.inr (6, [(some (.ref 99)), none])),
  .inl (0, 10),
  .inr (.inr (1, [none, (some (.ref 101)), none, none, none, none, none, none, none, none, none, none, none, none, (some (.ref 102)), none])),
  .inl (0, 64),
  .inr (.inr (6, [(some (.ref 103)), none])),
  .inl (0, 10),
  .inr (.inr (1, [none, (some (.ref 105)), none, none, none, none, none, none, none, none, none, none, none, none, (some (.ref 106)), none])),
  .inl (0, 64),
  .inr (.inr (6, [(some (.ref 107)), none])),
  .inl (0, 10),
  .inr (.inr (2, [(some (.ref 39)), (some (.ref 3)), (some (.ref 6)), (some (.ref 1)), (some (.ref 44)), (some (.ref 46)), (some (.ref 37)), (some (.ref 109)), (some (.ref 111)), (some (.ref 113))])),
  .inr (.inr (6, [(some (.ref 110)), none])),
  .inl (0, 10),
  .inr (.inr (6, [(some (.ref 112)), none])),
  .inl (0, 10),
  .inr (.inr (6, [(some (.ref 114)), none])),
  .inl (0, 10),
  .inl (0, 300),
  .inr (.inr (12, [(some (.ref 117)), none, none, none, none, none, none, none, none, none, none, none, none, none, none, none, (some (.ref 118)), (some (.ref 119)), (some (.ref 120)), (some (.ref 121)), none, (some (.ref 122)), (some (.ref 123)), (some (.ref 124)), (some (.ref 125)), none, none, none, none, none, none, none, none, (some (.ref 126)), (some (.ref 127)), (some (.ref 128)), (some (.ref 129)), (some (.ref 130)), (some (.ref 131)), (some (.ref 132)), (some (.ref 133)), (some (.ref 134)), (some (.ref 135)), (some (.ref 136)), (some (.ref 137)), (some (.ref 138)), (some (.ref 139)), (some (.ref 140)), (some (.ref 141)), (some (.ref 142)), (some (.ref 143)), (some (.ref 144)), (some (.ref 145)), (some (.ref 146)), (some (.ref 147)), (some (.ref 148)), none, none, none, none, (some (.ref 149)), none, none, (some (.ref 150)), none, (some (.ref 151)), (some (.ref 152)), none, none, (some (.ref 153)), none, (some (.ref 154)), none, none, (some (.ref 155)), none, none, none, none, none, none, none, none, none])),
  .inl (1, 12000),
  .inl (0, 800),
  .inl (0, 68),
  .inl (0, 85),
  .inl (0, 85),
  .inl (0, 64),
  .inl (0, 64),
  .inl (0, 64),
  .inl (0, 64),
  .inl (0, 15),
  .inl (0, 960),
  .inl (0, 15),
  .inl (0, 15),
  .inl (2, 15),
  .inl (0, 15),
  .inl (0, 15),
  .inl (0, 15),
  .inl (0, 15),
  .inl (0, 15),
  .inl (0, 15),
  .inl (0, 15),
  .inl (0, 15),
  .inl (0, 15),
  .inl (0, 15),
  .inl (0, 15),
  .inl (0, 15),
  .inl (0, 15),
  .inl (0, 15),
  .inl (0, 15),
  .inl (0, 15),
  .inl (0, 150),
  .inl (0, 960),
  .inl (0, 32),
  .inl (1, 400),
  .inl (0, 401),
  .inl (0, 300),
  .inl (0, 40),
  .inl (0, 10),
  .inl (1, 2048)]
/-- the numbers behind the constructors -/
def rz_I0 (k j : Nat) : Int32 := match k, j with
  | 3, 0 => 73
  | 6, 1 => -1
  | 6, 2 => -1
  | 13, 0 => 8
  | 13, 1 => 8000
  | 15, 0 => 8
  | 15, 1 => 8000
  | 17, 0 => 8
  | 17, 1 => 8000
  | 19, 0 => 7
  | 19, 1 => 7040
  | 21, 0 => 7
  | 21, 1 => 7040
  | 23, 0 => 7
  | 23, 1 => 7040
  | 25, 0 => 6
  | 25, 1 => 6080
  | 27, 0 => 6
  | 27, 1 => 6080
  | 29, 0 => 6
  | 29, 1 => 6080
  | 31, 0 => 5
  | 31, 1 => 5120
  | 33, 0 => 5
  | 33, 1 => 5120
  | 35, 0 => 5
  | 35, 1 => 5120
  | 113, 1 => 1
  | 116, 2 => -1
  | 116, 3 => -1
  | 116, 56 => 73
  | _, _ => 0
def rz_A0 (k j : Nat) : Int32 := match k, j with
  | 114, 0 => 42
  | _, _ => 0
