/-! the shapes of the cells: objects by class, arrays by role -/
abbrev zFK : Type := Nat × Nat × (Nat → Nat)
def z_obj : Nat → Option (Nat × List zFK) := fun c => match c with
  | 0 => some (0, [(2, 1, fun _ => 1), (2, 14, fun i => i)])
  | 1 => some (1, [(2, 10, fun i => i), (2, 11, fun i => i), (2, 12, fun i => i), (2, 13, fun i => i)])
  | 2 => some (2, [(2, 15, fun i => i), (2, 16, fun i => i), (0, 0, fun i => i), (0, 0, fun i => i), (2, 17, fun i => i), (2, 18, fun i => i), (2, 19, fun i => i)])
  | 3 => some (3, [(2, 20, fun i => i), (0, 0, fun i => i), (0, 0, fun i => i)])
  | 4 => some (4, [(2, 7, fun _ => 0), (2, 21, fun _ => 0), (2, 21, fun _ => 1), (3, 6, fun i => i), (0, 0, fun i => i), (0, 0, fun i => i), (0, 0, fun i => i), (0, 0, fun i => i), (0, 0, fun i => i), (0, 0, fun i => i), (0, 0, fun i => i)])
  | 5 => some (5, [(0, 0, fun i => i), (0, 0, fun i => i), (0, 0, fun i => i), (2, 22, fun i => i), (2, 23, fun i => i), (2, 24, fun i => i), (2, 25, fun i => i)])
  | 6 => some (6, [(0, 0, fun i => i), (0, 0, fun i => i), (0, 0, fun i => i), (2, 26, fun i => 2 * i), (2, 27, fun i => i), (2, 26, fun i => 2 * i + 1), (2, 28, fun i => i), (2, 29, fun i => i), (2, 30, fun i => i), (0, 0, fun i => i)])
  | 7 => some (7, [(2, 31, fun i => i), (2, 32, fun i => i), (2, 33, fun i => i), (3, 34, fun i => i), (0, 0, fun i => i), (0, 0, fun i => i)])
  | 8 => some (8, [(2, 34, fun _ => 0), (0, 0, fun i => i), (2, 4, fun _ => 0), (3, 6, fun i => i), (2, 5, fun _ => 0), (2, 5, fun _ => 1), (2, 5, fun _ => 2), (2, 35, fun i => i), (2, 36, fun i => i), (2, 3, fun _ => 0), (2, 37, fun i => i), (0, 0, fun i => i), (2, 1, fun _ => 0), (2, 0, fun _ => 0), (2, 2, fun _ => 0)])
  | 9 => some (9, [(0, 0, fun i => i), (2, 101, fun i => i), (0, 0, fun i => i), (2, 103, fun i => i), (0, 0, fun i => i), (2, 105, fun i => i), (2, 106, fun i => i), (2, 107, fun i => i), (2, 108, fun i => i), (2, 109, fun i => i), (0, 0, fun i => i), (0, 0, fun i => i), (0, 0, fun i => i), (0, 0, fun i => i), (0, 0, fun i => i), (0, 0, fun i => i), (0, 0, fun i => i), (0, 0, fun i => i), (0, 0, fun i => i), (0, 0, fun i => i), (0, 0, fun i => i), (2, 121, fun i => i), (2, 122, fun i => i), (2, 123, fun i => i), (2, 124, fun i => i), (2, 125, fun i => i), (2, 126, fun i => i), (2, 127, fun i => i), (2, 128, fun i => i), (2, 129, fun i => i), (2, 130, fun i => i), (2, 131, fun i => i), (2, 132, fun i => i), (2, 133, fun i => i), (0, 0, fun i => i), (2, 135, fun i => i), (2, 136, fun i => i), (2, 137, fun i => i), (2, 138, fun i => i), (2, 139, fun i => i), (0, 0, fun i => i), (2, 141, fun i => i), (2, 142, fun i => i), (2, 143, fun i => i), (0, 0, fun i => i), (2, 145, fun i => i), (2, 146, fun i => i), (1, 0, fun i => i), (2, 148, fun i => i), (2, 149, fun i => i), (0, 0, fun i => i), (1, 0, fun i => i), (2, 152, fun i => i), (2, 153, fun i => i), (2, 154, fun i => i), (0, 0, fun i => i), (2, 156, fun i => i), (2, 157, fun i => i), (0, 0, fun i => i), (2, 159, fun i => i), (2, 160, fun i => i), (2, 161, fun i => i), (2, 162, fun i => i), (2, 163, fun i => i), (2, 164, fun i => i), (2, 165, fun i => i)])
  | _ => none
def z_el : Nat → Nat := fun c => match c with
  | 20 => 4
  | 21 => 3
  | 33 => 3
  | 34 => 1
  | 37 => 4
  | 101 => 1
  | 103 => 1
  | 108 => 3
  | 109 => 3
  | 121 => 3
  | 135 => 2
  | 164 => 2
  | _ => 0
def z_len : Nat → Nat → Nat := fun c i => match c with
  | 10 => 5
  | 11 => 7
  | 12 => 7
  | 13 => 16
  | 14 => 7
  | 15 => 20
  | 16 => 20
  | 17 => 7
  | 18 => 128
  | 19 => 128
  | 20 => 40
  | 21 => if i = 0 then 5 else 7
  | 22 => 7
  | 23 => 7
  | 24 => 7
  | 25 => 5
  | 26 => if i % 2 = 0 then 5 else 7
  | 27 => 5
  | 28 => 7
  | 29 => 404
  | 30 => 4
  | 31 => 401
  | 32 => 401
  | 33 => 401
  | 34 => if i = 0 then 2000 else 0
  | 35 => 4
  | 36 => 4
  | 37 => 3
  | 101 => 2000
  | 103 => 2000
  | 105 => 403
  | 106 => 403
  | 107 => 403
  | 108 => 403
  | 109 => 21
  | 121 => 12
  | 122 => 12
  | 123 => 2
  | 124 => 10
  | 125 => 10
  | 126 => 2
  | 127 => 14
  | 128 => 14
  | 129 => 2
  | 130 => 2
  | 131 => 2
  | 132 => 8
  | 133 => 8
  | 135 => 260
  | 136 => 260
  | 137 => 260
  | 138 => 260
  | 139 => 260
  | 141 => 840
  | 142 => 840
  | 143 => 64
  | 145 => 9
  | 146 => 400
  | 148 => 34
  | 149 => 34
  | 152 => 5
  | 153 => 5
  | 154 => 7
  | 156 => 1360
  | 157 => 768
  | 159 => 20
  | 160 => 20
  | 161 => 7
  | 162 => 128
  | 163 => 128
  | 164 => 3
  | 165 => 102
  | _ => 0
/-- what an array of references holds -/
def z_tgt : Nat → Nat → Nat × Nat := fun c k => match c with
  | 20 => (5, 3 + k)
  | _ => (5, 43 + k)
def z_tyOf : Nat → FieldType := fun t => match t with
  | 0 => .int
  | 1 => .byte
  | 2 => .boolean
  | 3 => .long
  | _ => .object zR5
