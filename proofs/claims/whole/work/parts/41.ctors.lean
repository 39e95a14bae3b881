theorem df_X0 : ∀ j, j < 8 → defaultValue (tyX0 j) = if tgF 0 j = 0 then .int 0 else if tgF 0 j = 1 then .long 0 else .null := by
  intro j hj
  match j, hj with
  | 0, _ => rfl
  | 1, _ => rfl
  | 2, _ => rfl
  | 3, _ => rfl
  | 4, _ => rfl
  | 5, _ => rfl
  | 6, _ => rfl
  | 7, _ => rfl
  | j + 8, h => exact absurd h (by omega)
theorem df_X1 : ∀ j, j < 3 → defaultValue (tyX1 j) = if tgF 1 j = 0 then .int 0 else if tgF 1 j = 1 then .long 0 else .null := by
  intro j hj
  match j, hj with
  | 0, _ => rfl
  | 1, _ => rfl
  | 2, _ => rfl
  | j + 3, h => exact absurd h (by omega)
theorem df_X2 : ∀ j, j < 3 → defaultValue (tyX2 j) = if tgF 2 j = 0 then .int 0 else if tgF 2 j = 1 then .long 0 else .null := by
  intro j hj
  match j, hj with
  | 0, _ => rfl
  | 1, _ => rfl
  | 2, _ => rfl
  | j + 3, h => exact absurd h (by omega)
theorem df_X3 : ∀ j, j < 2 → defaultValue (tyX3 j) = if tgF 3 j = 0 then .int 0 else if tgF 3 j = 1 then .long 0 else .null := by
  intro j hj
  match j, hj with
  | 0, _ => rfl
  | 1, _ => rfl
  | j + 2, h => exact absurd h (by omega)
theorem df_X4 : ∀ j, j < 8 → defaultValue (tyX4 j) = if tgF 4 j = 0 then .int 0 else if tgF 4 j = 1 then .long 0 else .null := by
  intro j hj
  match j, hj with
  | 0, _ => rfl
  | 1, _ => rfl
  | 2, _ => rfl
  | 3, _ => rfl
  | 4, _ => rfl
  | 5, _ => rfl
  | 6, _ => rfl
  | 7, _ => rfl
  | j + 8, h => exact absurd h (by omega)
theorem df_X5 : ∀ j, j < 9 → defaultValue (tyX5 j) = if tgF 5 j = 0 then .int 0 else if tgF 5 j = 1 then .long 0 else .null := by
  intro j hj
  match j, hj with
  | 0, _ => rfl
  | 1, _ => rfl
  | 2, _ => rfl
  | 3, _ => rfl
  | 4, _ => rfl
  | 5, _ => rfl
  | 6, _ => rfl
  | 7, _ => rfl
  | 8, _ => rfl
  | j + 9, h => exact absurd h (by omega)
theorem df_X6 : ∀ j, j < 6 → defaultValue (tyX6 j) = if tgF 6 j = 0 then .int 0 else if tgF 6 j = 1 then .long 0 else .null := by
  intro j hj
  match j, hj with
  | 0, _ => rfl
  | 1, _ => rfl
  | 2, _ => rfl
  | 3, _ => rfl
  | 4, _ => rfl
  | 5, _ => rfl
  | j + 6, h => exact absurd h (by omega)
theorem df_X7 : ∀ j, j < 30 → defaultValue (tyX7 j) = if tgF 7 j = 0 then .int 0 else if tgF 7 j = 1 then .long 0 else .null := by
  intro j hj
  match j, hj with
  | 0, _ => rfl
  | 1, _ => rfl
  | 2, _ => rfl
  | 3, _ => rfl
  | 4, _ => rfl
  | 5, _ => rfl
  | 6, _ => rfl
  | 7, _ => rfl
  | 8, _ => rfl
  | 9, _ => rfl
  | 10, _ => rfl
  | 11, _ => rfl
  | 12, _ => rfl
  | 13, _ => rfl
  | 14, _ => rfl
  | 15, _ => rfl
  | 16, _ => rfl
  | 17, _ => rfl
  | 18, _ => rfl
  | 19, _ => rfl
  | 20, _ => rfl
  | 21, _ => rfl
  | 22, _ => rfl
  | 23, _ => rfl
  | 24, _ => rfl
  | 25, _ => rfl
  | 26, _ => rfl
  | 27, _ => rfl
  | 28, _ => rfl
  | 29, _ => rfl
  | j + 30, h => exact absurd h (by omega)
theorem wi_X2_init : wI yX2_init cX2_init 1 := ⟨rfl, kw_42, kw_3, kw_43⟩
theorem wi_X3_init : wI yX3_init cX3_init 2 := ⟨rfl, kw_35, kw_2, kw_36⟩
theorem wi_X5_init : wI yX5_init cX5_init 1 := ⟨rfl, kw_134, kw_7, kw_135⟩
theorem wi_X0_init : wI yX0_init cX0_init 1 := ⟨rfl, kw_95, kw_5, kw_96⟩
theorem wi_X1_init : wI yX1_init cX1_init 2 := ⟨rfl, kw_75, kw_4, kw_76⟩
theorem wi_X4_init : wI yX4_init cX4_init 2 := ⟨rfl, kw_128, kw_6, kw_129⟩
theorem wi_X6_init : wI yX6_init cX6_init 1 := ⟨rfl, kw_27, kw_1, kw_28⟩
theorem wi_X7_init : wI yX7_init cX7_init 1 := ⟨rfl, kw_902, kw_8, kw_903⟩
set_option maxRecDepth 100000 in
def f_X2_init (q0 : Nat) (x : Sg) : Option Sg := gd (kC x.1 = (2, 10)) <| bnd (nwS x 1 false) fun x2 => gd (kC q0 = (0, 2)) <| gd (q0 < x2.1) <| gd (rC q0 0 = x.1) <| bnd (sF x2 q0 0) fun x6 => some x6
set_option maxRecDepth 100000 in
def f_X3_init (q0 : Nat) (x : Sg) : Option Sg := gd (kC x.1 = (3, 8)) <| bnd (nwS x 1 false) fun x2 => gd (kC q0 = (0, 3)) <| gd (q0 < x2.1) <| gd (rC q0 0 = x.1) <| bnd (sF x2 q0 0) fun x6 => gd (kC q0 = (0, 3)) <| gd (q0 < x6.1) <| gd (x6.2.1 q0 0 = true) <| gd (kC x6.1 = (0, 2)) <| bnd (nwS x6 1 false) fun x11 => obk (f_X2_init (x6.1) x11) fun x12 => gd (x11.1 + 1 = x12.1) <| gd ((kC (rC q0 0)).1 = 3 ∧ ¬ ((0 : Int32) < 0 ∨ (kC (rC q0 0)).2 ≤ (0 : Int32).toNatClampNeg)) <| gd ((rC q0 0) < x12.1) <| gd (rC (rC q0 0) (0 : Int32).toNatClampNeg = x6.1) <| gd (kC (x6.1) = (0, 2)) <| gd (x6.1 < x12.1) <| bnd (sF x12 (rC q0 0) (0 : Int32).toNatClampNeg) fun x19 => gd (kC q0 = (0, 3)) <| gd (q0 < x19.1) <| gd (x19.2.1 q0 0 = true) <| gd (kC x19.1 = (0, 2)) <| bnd (nwS x19 1 false) fun x24 => obk (f_X2_init (x19.1) x24) fun x25 => gd (x24.1 + 1 = x25.1) <| gd ((kC (rC q0 0)).1 = 3 ∧ ¬ ((1 : Int32) < 0 ∨ (kC (rC q0 0)).2 ≤ (1 : Int32).toNatClampNeg)) <| gd ((rC q0 0) < x25.1) <| gd (rC (rC q0 0) (1 : Int32).toNatClampNeg = x19.1) <| gd (kC (x19.1) = (0, 2)) <| gd (x19.1 < x25.1) <| bnd (sF x25 (rC q0 0) (1 : Int32).toNatClampNeg) fun x32 => gd (kC q0 = (0, 3)) <| gd (q0 < x32.1) <| gd (x32.2.1 q0 0 = true) <| gd (kC x32.1 = (0, 2)) <| bnd (nwS x32 1 false) fun x37 => obk (f_X2_init (x32.1) x37) fun x38 => gd (x37.1 + 1 = x38.1) <| gd ((kC (rC q0 0)).1 = 3 ∧ ¬ ((2 : Int32) < 0 ∨ (kC (rC q0 0)).2 ≤ (2 : Int32).toNatClampNeg)) <| gd ((rC q0 0) < x38.1) <| gd (rC (rC q0 0) (2 : Int32).toNatClampNeg = x32.1) <| gd (kC (x32.1) = (0, 2)) <| gd (x32.1 < x38.1) <| bnd (sF x38 (rC q0 0) (2 : Int32).toNatClampNeg) fun x45 => gd (kC q0 = (0, 3)) <| gd (q0 < x45.1) <| gd (x45.2.1 q0 0 = true) <| gd (kC x45.1 = (0, 2)) <| bnd (nwS x45 1 false) fun x50 => obk (f_X2_init (x45.1) x50) fun x51 => gd (x50.1 + 1 = x51.1) <| gd ((kC (rC q0 0)).1 = 3 ∧ ¬ ((3 : Int32) < 0 ∨ (kC (rC q0 0)).2 ≤ (3 : Int32).toNatClampNeg)) <| gd ((rC q0 0) < x51.1) <| gd (rC (rC q0 0) (3 : Int32).toNatClampNeg = x45.1) <| gd (kC (x45.1) = (0, 2)) <| gd (x45.1 < x51.1) <| bnd (sF x51 (rC q0 0) (3 : Int32).toNatClampNeg) fun x58 => gd (kC q0 = (0, 3)) <| gd (q0 < x58.1) <| gd (x58.2.1 q0 0 = true) <| gd (kC x58.1 = (0, 2)) <| bnd (nwS x58 1 false) fun x63 => obk (f_X2_init (x58.1) x63) fun x64 => gd (x63.1 + 1 = x64.1) <| gd ((kC (rC q0 0)).1 = 3 ∧ ¬ ((4 : Int32) < 0 ∨ (kC (rC q0 0)).2 ≤ (4 : Int32).toNatClampNeg)) <| gd ((rC q0 0) < x64.1) <| gd (rC (rC q0 0) (4 : Int32).toNatClampNeg = x58.1) <| gd (kC (x58.1) = (0, 2)) <| gd (x58.1 < x64.1) <| bnd (sF x64 (rC q0 0) (4 : Int32).toNatClampNeg) fun x71 => gd (kC q0 = (0, 3)) <| gd (q0 < x71.1) <| gd (x71.2.1 q0 0 = true) <| gd (kC x71.1 = (0, 2)) <| bnd (nwS x71 1 false) fun x76 => obk (f_X2_init (x71.1) x76) fun x77 => gd (x76.1 + 1 = x77.1) <| gd ((kC (rC q0 0)).1 = 3 ∧ ¬ ((5 : Int32) < 0 ∨ (kC (rC q0 0)).2 ≤ (5 : Int32).toNatClampNeg)) <| gd ((rC q0 0) < x77.1) <| gd (rC (rC q0 0) (5 : Int32).toNatClampNeg = x71.1) <| gd (kC (x71.1) = (0, 2)) <| gd (x71.1 < x77.1) <| bnd (sF x77 (rC q0 0) (5 : Int32).toNatClampNeg) fun x84 => gd (kC q0 = (0, 3)) <| gd (q0 < x84.1) <| gd (x84.2.1 q0 0 = true) <| gd (kC x84.1 = (0, 2)) <| bnd (nwS x84 1 false) fun x89 => obk (f_X2_init (x84.1) x89) fun x90 => gd (x89.1 + 1 = x90.1) <| gd ((kC (rC q0 0)).1 = 3 ∧ ¬ ((6 : Int32) < 0 ∨ (kC (rC q0 0)).2 ≤ (6 : Int32).toNatClampNeg)) <| gd ((rC q0 0) < x90.1) <| gd (rC (rC q0 0) (6 : Int32).toNatClampNeg = x84.1) <| gd (kC (x84.1) = (0, 2)) <| gd (x84.1 < x90.1) <| bnd (sF x90 (rC q0 0) (6 : Int32).toNatClampNeg) fun x97 => gd (kC q0 = (0, 3)) <| gd (q0 < x97.1) <| gd (x97.2.1 q0 0 = true) <| gd (kC x97.1 = (0, 2)) <| bnd (nwS x97 1 false) fun x102 => obk (f_X2_init (x97.1) x102) fun x103 => gd (x102.1 + 1 = x103.1) <| gd ((kC (rC q0 0)).1 = 3 ∧ ¬ ((7 : Int32) < 0 ∨ (kC (rC q0 0)).2 ≤ (7 : Int32).toNatClampNeg)) <| gd ((rC q0 0) < x103.1) <| gd (rC (rC q0 0) (7 : Int32).toNatClampNeg = x97.1) <| gd (kC (x97.1) = (0, 2)) <| gd (x97.1 < x103.1) <| bnd (sF x103 (rC q0 0) (7 : Int32).toNatClampNeg) fun x110 => some x110
set_option maxRecDepth 100000 in
def f_X1_init (q0 : Nat) (x : Sg) : Option Sg := gd (kC x.1 = (4, 8)) <| bnd (nwS x 1 false) fun x2 => gd (kC q0 = (0, 1)) <| gd (q0 < x2.1) <| gd (rC q0 0 = x.1) <| bnd (sF x2 q0 0) fun x6 => gd (kC q0 = (0, 1)) <| gd (q0 < x6.1) <| gd (x6.2.1 q0 0 = true) <| gd (kC x6.1 = (0, 3)) <| bnd (nwS x6 1 false) fun x11 => obk (f_X3_init (x6.1) x11) fun x12 => gd (x11.1 + 17 = x12.1) <| gd ((kC (rC q0 0)).1 = 4 ∧ ¬ ((0 : Int32) < 0 ∨ (kC (rC q0 0)).2 ≤ (0 : Int32).toNatClampNeg)) <| gd ((rC q0 0) < x12.1) <| gd (rC (rC q0 0) (0 : Int32).toNatClampNeg = x6.1) <| gd (kC (x6.1) = (0, 3)) <| gd (x6.1 < x12.1) <| bnd (sF x12 (rC q0 0) (0 : Int32).toNatClampNeg) fun x19 => gd (kC q0 = (0, 1)) <| gd (q0 < x19.1) <| gd (x19.2.1 q0 0 = true) <| gd (kC x19.1 = (0, 3)) <| bnd (nwS x19 1 false) fun x24 => obk (f_X3_init (x19.1) x24) fun x25 => gd (x24.1 + 17 = x25.1) <| gd ((kC (rC q0 0)).1 = 4 ∧ ¬ ((1 : Int32) < 0 ∨ (kC (rC q0 0)).2 ≤ (1 : Int32).toNatClampNeg)) <| gd ((rC q0 0) < x25.1) <| gd (rC (rC q0 0) (1 : Int32).toNatClampNeg = x19.1) <| gd (kC (x19.1) = (0, 3)) <| gd (x19.1 < x25.1) <| bnd (sF x25 (rC q0 0) (1 : Int32).toNatClampNeg) fun x32 => gd (kC q0 = (0, 1)) <| gd (q0 < x32.1) <| gd (x32.2.1 q0 0 = true) <| gd (kC x32.1 = (0, 3)) <| bnd (nwS x32 1 false) fun x37 => obk (f_X3_init (x32.1) x37) fun x38 => gd (x37.1 + 17 = x38.1) <| gd ((kC (rC q0 0)).1 = 4 ∧ ¬ ((2 : Int32) < 0 ∨ (kC (rC q0 0)).2 ≤ (2 : Int32).toNatClampNeg)) <| gd ((rC q0 0) < x38.1) <| gd (rC (rC q0 0) (2 : Int32).toNatClampNeg = x32.1) <| gd (kC (x32.1) = (0, 3)) <| gd (x32.1 < x38.1) <| bnd (sF x38 (rC q0 0) (2 : Int32).toNatClampNeg) fun x45 => gd (kC q0 = (0, 1)) <| gd (q0 < x45.1) <| gd (x45.2.1 q0 0 = true) <| gd (kC x45.1 = (0, 3)) <| bnd (nwS x45 1 false) fun x50 => obk (f_X3_init (x45.1) x50) fun x51 => gd (x50.1 + 17 = x51.1) <| gd ((kC (rC q0 0)).1 = 4 ∧ ¬ ((3 : Int32) < 0 ∨ (kC (rC q0 0)).2 ≤ (3 : Int32).toNatClampNeg)) <| gd ((rC q0 0) < x51.1) <| gd (rC (rC q0 0) (3 : Int32).toNatClampNeg = x45.1) <| gd (kC (x45.1) = (0, 3)) <| gd (x45.1 < x51.1) <| bnd (sF x51 (rC q0 0) (3 : Int32).toNatClampNeg) fun x58 => gd (kC q0 = (0, 1)) <| gd (q0 < x58.1) <| gd (x58.2.1 q0 0 = true) <| gd (kC x58.1 = (0, 3)) <| bnd (nwS x58 1 false) fun x63 => obk (f_X3_init (x58.1) x63) fun x64 => gd (x63.1 + 17 = x64.1) <| gd ((kC (rC q0 0)).1 = 4 ∧ ¬ ((4 : Int32) < 0 ∨ (kC (rC q0 0)).2 ≤ (4 : Int32).toNatClampNeg)) <| gd ((rC q0 0) < x64.1) <| gd (rC (rC q0 0) (4 : Int32).toNatClampNeg = x58.1) <| gd (kC (x58.1) = (0, 3)) <| gd (x58.1 < x64.1) <| bnd (sF x64 (rC q0 0) (4 : Int32).toNatClampNeg) fun x71 => gd (kC q0 = (0, 1)) <| gd (q0 < x71.1) <| gd (x71.2.1 q0 0 = true) <| gd (kC x71.1 = (0, 3)) <| bnd (nwS x71 1 false) fun x76 => obk (f_X3_init (x71.1) x76) fun x77 => gd (x76.1 + 17 = x77.1) <| gd ((kC (rC q0 0)).1 = 4 ∧ ¬ ((5 : Int32) < 0 ∨ (kC (rC q0 0)).2 ≤ (5 : Int32).toNatClampNeg)) <| gd ((rC q0 0) < x77.1) <| gd (rC (rC q0 0) (5 : Int32).toNatClampNeg = x71.1) <| gd (kC (x71.1) = (0, 3)) <| gd (x71.1 < x77.1) <| bnd (sF x77 (rC q0 0) (5 : Int32).toNatClampNeg) fun x84 => gd (kC q0 = (0, 1)) <| gd (q0 < x84.1) <| gd (x84.2.1 q0 0 = true) <| gd (kC x84.1 = (0, 3)) <| bnd (nwS x84 1 false) fun x89 => obk (f_X3_init (x84.1) x89) fun x90 => gd (x89.1 + 17 = x90.1) <| gd ((kC (rC q0 0)).1 = 4 ∧ ¬ ((6 : Int32) < 0 ∨ (kC (rC q0 0)).2 ≤ (6 : Int32).toNatClampNeg)) <| gd ((rC q0 0) < x90.1) <| gd (rC (rC q0 0) (6 : Int32).toNatClampNeg = x84.1) <| gd (kC (x84.1) = (0, 3)) <| gd (x84.1 < x90.1) <| bnd (sF x90 (rC q0 0) (6 : Int32).toNatClampNeg) fun x97 => gd (kC q0 = (0, 1)) <| gd (q0 < x97.1) <| gd (x97.2.1 q0 0 = true) <| gd (kC x97.1 = (0, 3)) <| bnd (nwS x97 1 false) fun x102 => obk (f_X3_init (x97.1) x102) fun x103 => gd (x102.1 + 17 = x103.1) <| gd ((kC (rC q0 0)).1 = 4 ∧ ¬ ((7 : Int32) < 0 ∨ (kC (rC q0 0)).2 ≤ (7 : Int32).toNatClampNeg)) <| gd ((rC q0 0) < x103.1) <| gd (rC (rC q0 0) (7 : Int32).toNatClampNeg = x97.1) <| gd (kC (x97.1) = (0, 3)) <| gd (x97.1 < x103.1) <| bnd (sF x103 (rC q0 0) (7 : Int32).toNatClampNeg) fun x110 => some x110
set_option maxRecDepth 100000 in
def f_X0_init (q0 : Nat) (x : Sg) : Option Sg := gd (kC x.1 = (2, 49)) <| bnd (nwS x 1 false) fun x2 => gd (kC q0 = (0, 0)) <| gd (q0 < x2.1) <| gd (rC q0 0 = x.1) <| bnd (sF x2 q0 0) fun x6 => gd (kC x6.1 = (0, 2)) <| bnd (nwS x6 1 false) fun x8 => obk (f_X2_init (x6.1) x8) fun x9 => gd (x8.1 + 1 = x9.1) <| gd (kC q0 = (0, 0)) <| gd (q0 < x9.1) <| gd (rC q0 3 = x6.1) <| bnd (sF x9 q0 3) fun x14 => gd (kC x14.1 = (0, 2)) <| bnd (nwS x14 1 false) fun x16 => obk (f_X2_init (x14.1) x16) fun x17 => gd (x16.1 + 1 = x17.1) <| gd (kC q0 = (0, 0)) <| gd (q0 < x17.1) <| gd (rC q0 4 = x14.1) <| bnd (sF x17 q0 4) fun x22 => gd (kC x22.1 = (0, 2)) <| bnd (nwS x22 1 false) fun x24 => obk (f_X2_init (x22.1) x24) fun x25 => gd (x24.1 + 1 = x25.1) <| gd (kC q0 = (0, 0)) <| gd (q0 < x25.1) <| gd (rC q0 5 = x22.1) <| bnd (sF x25 q0 5) fun x30 => gd (kC x30.1 = (0, 2)) <| bnd (nwS x30 1 false) fun x32 => obk (f_X2_init (x30.1) x32) fun x33 => gd (x32.1 + 1 = x33.1) <| gd (kC q0 = (0, 0)) <| gd (q0 < x33.1) <| gd (rC q0 6 = x30.1) <| bnd (sF x33 q0 6) fun x38 => gd (kC x38.1 = (0, 2)) <| bnd (nwS x38 1 false) fun x40 => obk (f_X2_init (x38.1) x40) fun x41 => gd (x40.1 + 1 = x41.1) <| gd (kC q0 = (0, 0)) <| gd (q0 < x41.1) <| gd (rC q0 7 = x38.1) <| bnd (sF x41 q0 7) fun x46 => some x46
set_option maxRecDepth 100000 in
def f_X5_init (q0 : Nat) (x : Sg) : Option Sg := gd (kC x.1 = (1, 700)) <| bnd (nwS x 1 false) fun x2 => gd (kC q0 = (0, 5)) <| gd (q0 < x2.1) <| gd (rC q0 0 = x.1) <| bnd (sF x2 q0 0) fun x6 => gd (kC x6.1 = (1, 701)) <| bnd (nwS x6 1 false) fun x8 => gd (kC q0 = (0, 5)) <| gd (q0 < x8.1) <| gd (rC q0 2 = x6.1) <| bnd (sF x8 q0 2) fun x12 => gd (kC x12.1 = (1, 701)) <| bnd (nwS x12 1 false) fun x14 => gd (kC q0 = (0, 5)) <| gd (q0 < x14.1) <| gd (rC q0 3 = x12.1) <| bnd (sF x14 q0 3) fun x18 => some x18
set_option maxRecDepth 100000 in
def f_X4_init (q0 : Nat) (x : Sg) : Option Sg := gd (kC x.1 = (0, 5)) <| bnd (nwS x 1 false) fun x2 => obk (f_X5_init (x.1) x2) fun x3 => gd (x2.1 + 3 = x3.1) <| gd (kC q0 = (0, 4)) <| gd (q0 < x3.1) <| gd (rC q0 0 = x.1) <| bnd (sF x3 q0 0) fun x8 => gd (kC x8.1 = (0, 3)) <| bnd (nwS x8 1 false) fun x10 => obk (f_X3_init (x8.1) x10) fun x11 => gd (x10.1 + 17 = x11.1) <| gd (kC q0 = (0, 4)) <| gd (q0 < x11.1) <| gd (rC q0 1 = x8.1) <| bnd (sF x11 q0 1) fun x16 => gd (kC x16.1 = (0, 0)) <| bnd (nwS x16 1 false) fun x18 => obk (f_X0_init (x16.1) x18) fun x19 => gd (x18.1 + 11 = x19.1) <| gd (kC q0 = (0, 4)) <| gd (q0 < x19.1) <| gd (rC q0 2 = x16.1) <| bnd (sF x19 q0 2) fun x24 => gd (kC x24.1 = (3, 5)) <| bnd (nwS x24 1 false) fun x26 => gd (kC q0 = (0, 4)) <| gd (q0 < x26.1) <| gd (rC q0 3 = x24.1) <| bnd (sF x26 q0 3) fun x30 => gd (kC x30.1 = (3, 5)) <| bnd (nwS x30 1 false) fun x32 => gd (kC q0 = (0, 4)) <| gd (q0 < x32.1) <| gd (rC q0 4 = x30.1) <| bnd (sF x32 q0 4) fun x36 => gd (kC x36.1 = (3, 5)) <| bnd (nwS x36 1 false) fun x38 => gd (kC q0 = (0, 4)) <| gd (q0 < x38.1) <| gd (rC q0 5 = x36.1) <| bnd (sF x38 q0 5) fun x42 => gd (kC x42.1 = (3, 5)) <| bnd (nwS x42 1 false) fun x44 => gd (kC q0 = (0, 4)) <| gd (q0 < x44.1) <| gd (rC q0 6 = x42.1) <| bnd (sF x44 q0 6) fun x48 => gd (kC q0 = (0, 4)) <| gd (q0 < x48.1) <| gd (x48.2.1 q0 3 = true) <| gd (kC x48.1 = (0, 2)) <| bnd (nwS x48 1 false) fun x53 => obk (f_X2_init (x48.1) x53) fun x54 => gd (x53.1 + 1 = x54.1) <| gd ((kC (rC q0 3)).1 = 3 ∧ ¬ ((0 : Int32) < 0 ∨ (kC (rC q0 3)).2 ≤ (0 : Int32).toNatClampNeg)) <| gd ((rC q0 3) < x54.1) <| gd (rC (rC q0 3) (0 : Int32).toNatClampNeg = x48.1) <| gd (kC (x48.1) = (0, 2)) <| gd (x48.1 < x54.1) <| bnd (sF x54 (rC q0 3) (0 : Int32).toNatClampNeg) fun x61 => gd (kC q0 = (0, 4)) <| gd (q0 < x61.1) <| gd (x61.2.1 q0 4 = true) <| gd (kC x61.1 = (0, 2)) <| bnd (nwS x61 1 false) fun x66 => obk (f_X2_init (x61.1) x66) fun x67 => gd (x66.1 + 1 = x67.1) <| gd ((kC (rC q0 4)).1 = 3 ∧ ¬ ((0 : Int32) < 0 ∨ (kC (rC q0 4)).2 ≤ (0 : Int32).toNatClampNeg)) <| gd ((rC q0 4) < x67.1) <| gd (rC (rC q0 4) (0 : Int32).toNatClampNeg = x61.1) <| gd (kC (x61.1) = (0, 2)) <| gd (x61.1 < x67.1) <| bnd (sF x67 (rC q0 4) (0 : Int32).toNatClampNeg) fun x74 => gd (kC q0 = (0, 4)) <| gd (q0 < x74.1) <| gd (x74.2.1 q0 5 = true) <| gd (kC x74.1 = (0, 2)) <| bnd (nwS x74 1 false) fun x79 => obk (f_X2_init (x74.1) x79) fun x80 => gd (x79.1 + 1 = x80.1) <| gd ((kC (rC q0 5)).1 = 3 ∧ ¬ ((0 : Int32) < 0 ∨ (kC (rC q0 5)).2 ≤ (0 : Int32).toNatClampNeg)) <| gd ((rC q0 5) < x80.1) <| gd (rC (rC q0 5) (0 : Int32).toNatClampNeg = x74.1) <| gd (kC (x74.1) = (0, 2)) <| gd (x74.1 < x80.1) <| bnd (sF x80 (rC q0 5) (0 : Int32).toNatClampNeg) fun x87 => gd (kC q0 = (0, 4)) <| gd (q0 < x87.1) <| gd (x87.2.1 q0 6 = true) <| gd (kC x87.1 = (0, 2)) <| bnd (nwS x87 1 false) fun x92 => obk (f_X2_init (x87.1) x92) fun x93 => gd (x92.1 + 1 = x93.1) <| gd ((kC (rC q0 6)).1 = 3 ∧ ¬ ((0 : Int32) < 0 ∨ (kC (rC q0 6)).2 ≤ (0 : Int32).toNatClampNeg)) <| gd ((rC q0 6) < x93.1) <| gd (rC (rC q0 6) (0 : Int32).toNatClampNeg = x87.1) <| gd (kC (x87.1) = (0, 2)) <| gd (x87.1 < x93.1) <| bnd (sF x93 (rC q0 6) (0 : Int32).toNatClampNeg) fun x100 => gd (kC q0 = (0, 4)) <| gd (q0 < x100.1) <| gd (x100.2.1 q0 3 = true) <| gd (kC x100.1 = (0, 2)) <| bnd (nwS x100 1 false) fun x105 => obk (f_X2_init (x100.1) x105) fun x106 => gd (x105.1 + 1 = x106.1) <| gd ((kC (rC q0 3)).1 = 3 ∧ ¬ ((1 : Int32) < 0 ∨ (kC (rC q0 3)).2 ≤ (1 : Int32).toNatClampNeg)) <| gd ((rC q0 3) < x106.1) <| gd (rC (rC q0 3) (1 : Int32).toNatClampNeg = x100.1) <| gd (kC (x100.1) = (0, 2)) <| gd (x100.1 < x106.1) <| bnd (sF x106 (rC q0 3) (1 : Int32).toNatClampNeg) fun x113 => gd (kC q0 = (0, 4)) <| gd (q0 < x113.1) <| gd (x113.2.1 q0 4 = true) <| gd (kC x113.1 = (0, 2)) <| bnd (nwS x113 1 false) fun x118 => obk (f_X2_init (x113.1) x118) fun x119 => gd (x118.1 + 1 = x119.1) <| gd ((kC (rC q0 4)).1 = 3 ∧ ¬ ((1 : Int32) < 0 ∨ (kC (rC q0 4)).2 ≤ (1 : Int32).toNatClampNeg)) <| gd ((rC q0 4) < x119.1) <| gd (rC (rC q0 4) (1 : Int32).toNatClampNeg = x113.1) <| gd (kC (x113.1) = (0, 2)) <| gd (x113.1 < x119.1) <| bnd (sF x119 (rC q0 4) (1 : Int32).toNatClampNeg) fun x126 => gd (kC q0 = (0, 4)) <| gd (q0 < x126.1) <| gd (x126.2.1 q0 5 = true) <| gd (kC x126.1 = (0, 2)) <| bnd (nwS x126 1 false) fun x131 => obk (f_X2_init (x126.1) x131) fun x132 => gd (x131.1 + 1 = x132.1) <| gd ((kC (rC q0 5)).1 = 3 ∧ ¬ ((1 : Int32) < 0 ∨ (kC (rC q0 5)).2 ≤ (1 : Int32).toNatClampNeg)) <| gd ((rC q0 5) < x132.1) <| gd (rC (rC q0 5) (1 : Int32).toNatClampNeg = x126.1) <| gd (kC (x126.1) = (0, 2)) <| gd (x126.1 < x132.1) <| bnd (sF x132 (rC q0 5) (1 : Int32).toNatClampNeg) fun x139 => gd (kC q0 = (0, 4)) <| gd (q0 < x139.1) <| gd (x139.2.1 q0 6 = true) <| gd (kC x139.1 = (0, 2)) <| bnd (nwS x139 1 false) fun x144 => obk (f_X2_init (x139.1) x144) fun x145 => gd (x144.1 + 1 = x145.1) <| gd ((kC (rC q0 6)).1 = 3 ∧ ¬ ((1 : Int32) < 0 ∨ (kC (rC q0 6)).2 ≤ (1 : Int32).toNatClampNeg)) <| gd ((rC q0 6) < x145.1) <| gd (rC (rC q0 6) (1 : Int32).toNatClampNeg = x139.1) <| gd (kC (x139.1) = (0, 2)) <| gd (x139.1 < x145.1) <| bnd (sF x145 (rC q0 6) (1 : Int32).toNatClampNeg) fun x152 => gd (kC q0 = (0, 4)) <| gd (q0 < x152.1) <| gd (x152.2.1 q0 3 = true) <| gd (kC x152.1 = (0, 2)) <| bnd (nwS x152 1 false) fun x157 => obk (f_X2_init (x152.1) x157) fun x158 => gd (x157.1 + 1 = x158.1) <| gd ((kC (rC q0 3)).1 = 3 ∧ ¬ ((2 : Int32) < 0 ∨ (kC (rC q0 3)).2 ≤ (2 : Int32).toNatClampNeg)) <| gd ((rC q0 3) < x158.1) <| gd (rC (rC q0 3) (2 : Int32).toNatClampNeg = x152.1) <| gd (kC (x152.1) = (0, 2)) <| gd (x152.1 < x158.1) <| bnd (sF x158 (rC q0 3) (2 : Int32).toNatClampNeg) fun x165 => gd (kC q0 = (0, 4)) <| gd (q0 < x165.1) <| gd (x165.2.1 q0 4 = true) <| gd (kC x165.1 = (0, 2)) <| bnd (nwS x165 1 false) fun x170 => obk (f_X2_init (x165.1) x170) fun x171 => gd (x170.1 + 1 = x171.1) <| gd ((kC (rC q0 4)).1 = 3 ∧ ¬ ((2 : Int32) < 0 ∨ (kC (rC q0 4)).2 ≤ (2 : Int32).toNatClampNeg)) <| gd ((rC q0 4) < x171.1) <| gd (rC (rC q0 4) (2 : Int32).toNatClampNeg = x165.1) <| gd (kC (x165.1) = (0, 2)) <| gd (x165.1 < x171.1) <| bnd (sF x171 (rC q0 4) (2 : Int32).toNatClampNeg) fun x178 => gd (kC q0 = (0, 4)) <| gd (q0 < x178.1) <| gd (x178.2.1 q0 5 = true) <| gd (kC x178.1 = (0, 2)) <| bnd (nwS x178 1 false) fun x183 => obk (f_X2_init (x178.1) x183) fun x184 => gd (x183.1 + 1 = x184.1) <| gd ((kC (rC q0 5)).1 = 3 ∧ ¬ ((2 : Int32) < 0 ∨ (kC (rC q0 5)).2 ≤ (2 : Int32).toNatClampNeg)) <| gd ((rC q0 5) < x184.1) <| gd (rC (rC q0 5) (2 : Int32).toNatClampNeg = x178.1) <| gd (kC (x178.1) = (0, 2)) <| gd (x178.1 < x184.1) <| bnd (sF x184 (rC q0 5) (2 : Int32).toNatClampNeg) fun x191 => gd (kC q0 = (0, 4)) <| gd (q0 < x191.1) <| gd (x191.2.1 q0 6 = true) <| gd (kC x191.1 = (0, 2)) <| bnd (nwS x191 1 false) fun x196 => obk (f_X2_init (x191.1) x196) fun x197 => gd (x196.1 + 1 = x197.1) <| gd ((kC (rC q0 6)).1 = 3 ∧ ¬ ((2 : Int32) < 0 ∨ (kC (rC q0 6)).2 ≤ (2 : Int32).toNatClampNeg)) <| gd ((rC q0 6) < x197.1) <| gd (rC (rC q0 6) (2 : Int32).toNatClampNeg = x191.1) <| gd (kC (x191.1) = (0, 2)) <| gd (x191.1 < x197.1) <| bnd (sF x197 (rC q0 6) (2 : Int32).toNatClampNeg) fun x204 => gd (kC q0 = (0, 4)) <| gd (q0 < x204.1) <| gd (x204.2.1 q0 3 = true) <| gd (kC x204.1 = (0, 2)) <| bnd (nwS x204 1 false) fun x209 => obk (f_X2_init (x204.1) x209) fun x210 => gd (x209.1 + 1 = x210.1) <| gd ((kC (rC q0 3)).1 = 3 ∧ ¬ ((3 : Int32) < 0 ∨ (kC (rC q0 3)).2 ≤ (3 : Int32).toNatClampNeg)) <| gd ((rC q0 3) < x210.1) <| gd (rC (rC q0 3) (3 : Int32).toNatClampNeg = x204.1) <| gd (kC (x204.1) = (0, 2)) <| gd (x204.1 < x210.1) <| bnd (sF x210 (rC q0 3) (3 : Int32).toNatClampNeg) fun x217 => gd (kC q0 = (0, 4)) <| gd (q0 < x217.1) <| gd (x217.2.1 q0 4 = true) <| gd (kC x217.1 = (0, 2)) <| bnd (nwS x217 1 false) fun x222 => obk (f_X2_init (x217.1) x222) fun x223 => gd (x222.1 + 1 = x223.1) <| gd ((kC (rC q0 4)).1 = 3 ∧ ¬ ((3 : Int32) < 0 ∨ (kC (rC q0 4)).2 ≤ (3 : Int32).toNatClampNeg)) <| gd ((rC q0 4) < x223.1) <| gd (rC (rC q0 4) (3 : Int32).toNatClampNeg = x217.1) <| gd (kC (x217.1) = (0, 2)) <| gd (x217.1 < x223.1) <| bnd (sF x223 (rC q0 4) (3 : Int32).toNatClampNeg) fun x230 => gd (kC q0 = (0, 4)) <| gd (q0 < x230.1) <| gd (x230.2.1 q0 5 = true) <| gd (kC x230.1 = (0, 2)) <| bnd (nwS x230 1 false) fun x235 => obk (f_X2_init (x230.1) x235) fun x236 => gd (x235.1 + 1 = x236.1) <| gd ((kC (rC q0 5)).1 = 3 ∧ ¬ ((3 : Int32) < 0 ∨ (kC (rC q0 5)).2 ≤ (3 : Int32).toNatClampNeg)) <| gd ((rC q0 5) < x236.1) <| gd (rC (rC q0 5) (3 : Int32).toNatClampNeg = x230.1) <| gd (kC (x230.1) = (0, 2)) <| gd (x230.1 < x236.1) <| bnd (sF x236 (rC q0 5) (3 : Int32).toNatClampNeg) fun x243 => gd (kC q0 = (0, 4)) <| gd (q0 < x243.1) <| gd (x243.2.1 q0 6 = true) <| gd (kC x243.1 = (0, 2)) <| bnd (nwS x243 1 false) fun x248 => obk (f_X2_init (x243.1) x248) fun x249 => gd (x248.1 + 1 = x249.1) <| gd ((kC (rC q0 6)).1 = 3 ∧ ¬ ((3 : Int32) < 0 ∨ (kC (rC q0 6)).2 ≤ (3 : Int32).toNatClampNeg)) <| gd ((rC q0 6) < x249.1) <| gd (rC (rC q0 6) (3 : Int32).toNatClampNeg = x243.1) <| gd (kC (x243.1) = (0, 2)) <| gd (x243.1 < x249.1) <| bnd (sF x249 (rC q0 6) (3 : Int32).toNatClampNeg) fun x256 => gd (kC q0 = (0, 4)) <| gd (q0 < x256.1) <| gd (x256.2.1 q0 3 = true) <| gd (kC x256.1 = (0, 2)) <| bnd (nwS x256 1 false) fun x261 => obk (f_X2_init (x256.1) x261) fun x262 => gd (x261.1 + 1 = x262.1) <| gd ((kC (rC q0 3)).1 = 3 ∧ ¬ ((4 : Int32) < 0 ∨ (kC (rC q0 3)).2 ≤ (4 : Int32).toNatClampNeg)) <| gd ((rC q0 3) < x262.1) <| gd (rC (rC q0 3) (4 : Int32).toNatClampNeg = x256.1) <| gd (kC (x256.1) = (0, 2)) <| gd (x256.1 < x262.1) <| bnd (sF x262 (rC q0 3) (4 : Int32).toNatClampNeg) fun x269 => gd (kC q0 = (0, 4)) <| gd (q0 < x269.1) <| gd (x269.2.1 q0 4 = true) <| gd (kC x269.1 = (0, 2)) <| bnd (nwS x269 1 false) fun x274 => obk (f_X2_init (x269.1) x274) fun x275 => gd (x274.1 + 1 = x275.1) <| gd ((kC (rC q0 4)).1 = 3 ∧ ¬ ((4 : Int32) < 0 ∨ (kC (rC q0 4)).2 ≤ (4 : Int32).toNatClampNeg)) <| gd ((rC q0 4) < x275.1) <| gd (rC (rC q0 4) (4 : Int32).toNatClampNeg = x269.1) <| gd (kC (x269.1) = (0, 2)) <| gd (x269.1 < x275.1) <| bnd (sF x275 (rC q0 4) (4 : Int32).toNatClampNeg) fun x282 => gd (kC q0 = (0, 4)) <| gd (q0 < x282.1) <| gd (x282.2.1 q0 5 = true) <| gd (kC x282.1 = (0, 2)) <| bnd (nwS x282 1 false) fun x287 => obk (f_X2_init (x282.1) x287) fun x288 => gd (x287.1 + 1 = x288.1) <| gd ((kC (rC q0 5)).1 = 3 ∧ ¬ ((4 : Int32) < 0 ∨ (kC (rC q0 5)).2 ≤ (4 : Int32).toNatClampNeg)) <| gd ((rC q0 5) < x288.1) <| gd (rC (rC q0 5) (4 : Int32).toNatClampNeg = x282.1) <| gd (kC (x282.1) = (0, 2)) <| gd (x282.1 < x288.1) <| bnd (sF x288 (rC q0 5) (4 : Int32).toNatClampNeg) fun x295 => gd (kC q0 = (0, 4)) <| gd (q0 < x295.1) <| gd (x295.2.1 q0 6 = true) <| gd (kC x295.1 = (0, 2)) <| bnd (nwS x295 1 false) fun x300 => obk (f_X2_init (x295.1) x300) fun x301 => gd (x300.1 + 1 = x301.1) <| gd ((kC (rC q0 6)).1 = 3 ∧ ¬ ((4 : Int32) < 0 ∨ (kC (rC q0 6)).2 ≤ (4 : Int32).toNatClampNeg)) <| gd ((rC q0 6) < x301.1) <| gd (rC (rC q0 6) (4 : Int32).toNatClampNeg = x295.1) <| gd (kC (x295.1) = (0, 2)) <| gd (x295.1 < x301.1) <| bnd (sF x301 (rC q0 6) (4 : Int32).toNatClampNeg) fun x308 => some x308
set_option maxRecDepth 100000 in
def f_X6_init (q0 : Nat) (x : Sg) : Option Sg := gd (kC x.1 = (0, 3)) <| bnd (nwS x 1 false) fun x2 => obk (f_X3_init (x.1) x2) fun x3 => gd (x2.1 + 17 = x3.1) <| gd (kC q0 = (0, 6)) <| gd (q0 < x3.1) <| gd (rC q0 0 = x.1) <| bnd (sF x3 q0 0) fun x8 => gd (kC x8.1 = (0, 1)) <| bnd (nwS x8 1 false) fun x10 => obk (f_X1_init (x8.1) x10) fun x11 => gd (x10.1 + 145 = x11.1) <| gd (kC q0 = (0, 6)) <| gd (q0 < x11.1) <| gd (rC q0 1 = x8.1) <| bnd (sF x11 q0 1) fun x16 => gd (kC x16.1 = (0, 0)) <| bnd (nwS x16 1 false) fun x18 => obk (f_X0_init (x16.1) x18) fun x19 => gd (x18.1 + 11 = x19.1) <| gd (kC q0 = (0, 6)) <| gd (q0 < x19.1) <| gd (rC q0 2 = x16.1) <| bnd (sF x19 q0 2) fun x24 => gd (kC x24.1 = (0, 4)) <| bnd (nwS x24 1 false) fun x26 => obk (f_X4_init (x24.1) x26) fun x27 => gd (x26.1 + 78 = x27.1) <| gd (kC q0 = (0, 6)) <| gd (q0 < x27.1) <| gd (rC q0 3 = x24.1) <| bnd (sF x27 q0 3) fun x32 => gd (kC x32.1 = (0, 2)) <| bnd (nwS x32 1 false) fun x34 => obk (f_X2_init (x32.1) x34) fun x35 => gd (x34.1 + 1 = x35.1) <| gd (kC q0 = (0, 6)) <| gd (q0 < x35.1) <| gd (rC q0 4 = x32.1) <| bnd (sF x35 q0 4) fun x40 => gd (kC q0 = (0, 6)) <| gd (q0 < x40.1) <| bnd (sK x40 q0 5 (-1 : Int32)) fun x43 => some x43
set_option maxRecDepth 100000 in
def f_X7_init (q0 : Nat) (x : Sg) : Option Sg := gd (kR x.1 = (1, 700)) <| bnd (nwS x 1 false) fun x2 => gd (kR q0 = (0, 7)) <| gd (q0 < x2.1) <| gd (rR q0 1 = x.1) <| bnd (sF x2 q0 1) fun x6 => gd (kR q0 = (0, 7)) <| gd (q0 < x6.1) <| bnd (sK x6 q0 7 (-1 : Int32)) fun x9 => gd (kR x9.1 = (1, 97)) <| bnd (nwS x9 1 false) fun x11 => gd (kR q0 = (0, 7)) <| gd (q0 < x11.1) <| gd (rR q0 8 = x9.1) <| bnd (sF x11 q0 8) fun x15 => gd (kR x15.1 = (1, 97)) <| bnd (nwS x15 1 false) fun x17 => gd (kR q0 = (0, 7)) <| gd (q0 < x17.1) <| gd (rR q0 9 = x15.1) <| bnd (sF x17 q0 9) fun x21 => gd (kR x21.1 = (5, 8)) <| gd (∀ j, j < 8 → kR (x21.1 + 1 + j) = (1, 97) ∧ rR x21.1 j = x21.1 + 1 + j) <| gd (x21.1 + 8 < skR.1) <| bnd (nwS x21 (1 + 8) true) fun x25 => gd (kR q0 = (0, 7)) <| gd (q0 < x25.1) <| gd (rR q0 10 = x21.1) <| bnd (sF x25 q0 10) fun x29 => gd (kR x29.1 = (2, 49)) <| bnd (nwS x29 1 false) fun x31 => gd (kR q0 = (0, 7)) <| gd (q0 < x31.1) <| gd (rR q0 12 = x29.1) <| bnd (sF x31 q0 12) fun x35 => gd (kR x35.1 = (2, 12)) <| bnd (nwS x35 1 false) fun x37 => gd (kR q0 = (0, 7)) <| gd (q0 < x37.1) <| gd (rR q0 13 = x35.1) <| bnd (sF x37 q0 13) fun x41 => gd (kR x41.1 = (2, 12)) <| bnd (nwS x41 1 false) fun x43 => gd (kR q0 = (0, 7)) <| gd (q0 < x43.1) <| gd (rR q0 14 = x41.1) <| bnd (sF x43 q0 14) fun x47 => gd (kR x47.1 = (2, 12)) <| bnd (nwS x47 1 false) fun x49 => gd (kR q0 = (0, 7)) <| gd (q0 < x49.1) <| gd (rR q0 15 = x47.1) <| bnd (sF x49 q0 15) fun x53 => gd (kR x53.1 = (2, 12)) <| bnd (nwS x53 1 false) fun x55 => gd (kR q0 = (0, 7)) <| gd (q0 < x55.1) <| gd (rR q0 16 = x53.1) <| bnd (sF x55 q0 16) fun x59 => gd (kR x59.1 = (6, 6)) <| gd (∀ j, j < 6 → kR (x59.1 + 1 + j) = (2, 12) ∧ rR x59.1 j = x59.1 + 1 + j) <| gd (x59.1 + 6 < skR.1) <| bnd (nwS x59 (1 + 6) true) fun x63 => gd (kR q0 = (0, 7)) <| gd (q0 < x63.1) <| gd (rR q0 18 = x59.1) <| bnd (sF x63 q0 18) fun x67 => gd (kR x67.1 = (6, 6)) <| gd (∀ j, j < 6 → kR (x67.1 + 1 + j) = (2, 12) ∧ rR x67.1 j = x67.1 + 1 + j) <| gd (x67.1 + 6 < skR.1) <| bnd (nwS x67 (1 + 6) true) fun x71 => gd (kR q0 = (0, 7)) <| gd (q0 < x71.1) <| gd (rR q0 19 = x67.1) <| bnd (sF x71 q0 19) fun x75 => gd (kR x75.1 = (6, 6)) <| gd (∀ j, j < 6 → kR (x75.1 + 1 + j) = (2, 12) ∧ rR x75.1 j = x75.1 + 1 + j) <| gd (x75.1 + 6 < skR.1) <| bnd (nwS x75 (1 + 6) true) fun x79 => gd (kR q0 = (0, 7)) <| gd (q0 < x79.1) <| gd (rR q0 20 = x75.1) <| bnd (sF x79 q0 20) fun x83 => gd (kR x83.1 = (6, 6)) <| gd (∀ j, j < 6 → kR (x83.1 + 1 + j) = (2, 12) ∧ rR x83.1 j = x83.1 + 1 + j) <| gd (x83.1 + 6 < skR.1) <| bnd (nwS x83 (1 + 6) true) fun x87 => gd (kR q0 = (0, 7)) <| gd (q0 < x87.1) <| gd (rR q0 21 = x83.1) <| bnd (sF x87 q0 21) fun x91 => gd (kR x91.1 = (2, 12)) <| bnd (nwS x91 1 false) fun x93 => gd (kR q0 = (0, 7)) <| gd (q0 < x93.1) <| gd (rR q0 22 = x91.1) <| bnd (sF x93 q0 22) fun x97 => gd (kR x97.1 = (2, 12)) <| bnd (nwS x97 1 false) fun x99 => gd (kR q0 = (0, 7)) <| gd (q0 < x99.1) <| gd (rR q0 24 = x97.1) <| bnd (sF x99 q0 24) fun x103 => gd (kR x103.1 = (2, 12)) <| bnd (nwS x103 1 false) fun x105 => gd (kR q0 = (0, 7)) <| gd (q0 < x105.1) <| gd (rR q0 25 = x103.1) <| bnd (sF x105 q0 25) fun x109 => gd (kR x109.1 = (2, 12)) <| bnd (nwS x109 1 false) fun x111 => gd (kR q0 = (0, 7)) <| gd (q0 < x111.1) <| gd (rR q0 26 = x109.1) <| bnd (sF x111 q0 26) fun x115 => gd (kR x115.1 = (2, 12)) <| bnd (nwS x115 1 false) fun x117 => gd (kR q0 = (0, 7)) <| gd (q0 < x117.1) <| gd (rR q0 27 = x115.1) <| bnd (sF x117 q0 27) fun x121 => gd (kR x121.1 = (2, 12)) <| bnd (nwS x121 1 false) fun x123 => gd (kR q0 = (0, 7)) <| gd (q0 < x123.1) <| gd (rR q0 28 = x121.1) <| bnd (sF x123 q0 28) fun x127 => gd (kR x127.1 = (2, 12)) <| bnd (nwS x127 1 false) fun x129 => gd (kR q0 = (0, 7)) <| gd (q0 < x129.1) <| gd (rR q0 29 = x127.1) <| bnd (sF x129 q0 29) fun x133 => some x133
set_option maxHeartbeats 4000000 in
set_option maxRecDepth 100000 in
theorem m_X2_init {l : Launch} {G : GP} {sz q0 : Nat} {x x0 : Sg} (h : f_X2_init q0 x = some x0) : Met l yX2_init [.code yX2_init cX2_init 1 none] ({ frames := 1, cells := 1, slots := 10, locals := 24 } : Room) (va_Pc [Value.ref (G.2.2.2 + q0)] (PreK G skC sz x)) (QO (PoK G skC x0) (Aw G.2.2.2 skC.1 sz) none) 1 10 (Aw G.2.2.2 skC.1 sz) := by
  refine mkMetK (by decide +kernel) (Nat.le_of_ble_eq_true rfl) skC_ok ?_
  intro p e s m below meth c ls E hAO hW hl hr hlk hin0
  have hl : lv_has ls 1 [(0, .ref (G.2.2.2 + q0))] := hl
  generalize Aw G.2.2.2 skC.1 s.heap.size = A0 at E hW ⊢
  generalize ([Value.ref (G.2.2.2 + q0)] : List Value).toArray = args
  unfold f_X2_init at h
  refine lv_aload_n E.1 E.2.1 dX2_init_0 rfl (lv_at hl 0 rfl) ?_
  refine k_obj E (lv_size hl) kw_44 kw_30 kw_31 ⟨(Nat.le_of_ble_eq_true rfl), (Nat.le_of_ble_eq_true rfl)⟩ dX2_init_1 ?_
  refine lv_aload_n E.1 E.2.1 dX2_init_4 rfl (lv_at hl 0 rfl) ?_
  refine lv_bipush (v := (10 : Int32)) E.1 E.2.1 dX2_init_5 (by decide) ?_
  obtain ⟨g1, h⟩ := gd_r h
  refine k_newJ E hW g1 (by decide) rfl (Nat.le_of_ble_eq_true rfl) ⟨(Nat.le_of_ble_eq_true rfl), (Nat.le_of_ble_eq_true rfl)⟩ dX2_init_7 (fun x2 H ex2 hW => ?_)
  have h := bnd_r ex2 h
  obtain ⟨g3, h⟩ := gd_r h
  obtain ⟨g4, h⟩ := gd_r h
  obtain ⟨g5, h⟩ := gd_r h
  refine k_putF E hW (k := 0) (T := TX2) (n := 3) (ty := tyX2 0) hin0 g3 g4 g5 rfl in_X2 (by decide) rfl rfl tyX2_ok nmX2 ⟨rfl, rfl, rfl, rfl⟩ rfl (by decide +kernel) ⟨fun _ => rfl, fun _ => rfl⟩ kw_45 dX2_init_9 (fun x6 H locs ex6 hW => ?_)
  have h := bnd_r ex6 h
  exact k_ret E hW hr hlk h (Nat.le_of_ble_eq_true rfl) (Nat.le_of_ble_eq_true rfl) dX2_init_12
set_option maxHeartbeats 4000000 in
set_option maxRecDepth 100000 in
theorem m_X3_init {l : Launch} {G : GP} {sz q0 : Nat} {x x0 : Sg} (h : f_X3_init q0 x = some x0) : Met l yX3_init [.code yX3_init cX3_init 2 none] ({ frames := 2, cells := 17, slots := 112, locals := 44 } : Room) (va_Pc [Value.ref (G.2.2.2 + q0)] (PreK G skC sz x)) (QO (PoK G skC x0) (Aw G.2.2.2 skC.1 sz) none) 17 112 (Aw G.2.2.2 skC.1 sz) := by
  refine mkMetK (by decide +kernel) (Nat.le_of_ble_eq_true rfl) skC_ok ?_
  intro p e s m below meth c ls E hAO hW hl hr hlk hin0
  have hl : lv_has ls 2 [(0, .ref (G.2.2.2 + q0))] := hl
  generalize Aw G.2.2.2 skC.1 s.heap.size = A0 at E hW ⊢
  generalize ([Value.ref (G.2.2.2 + q0)] : List Value).toArray = args
  unfold f_X3_init at h
  refine lv_aload_n E.1 E.2.1 dX3_init_0 rfl (lv_at hl 0 rfl) ?_
  refine k_obj E (lv_size hl) kw_37 kw_30 kw_31 ⟨(Nat.le_of_ble_eq_true rfl), (Nat.le_of_ble_eq_true rfl)⟩ dX3_init_1 ?_
  refine lv_aload_n E.1 E.2.1 dX3_init_4 rfl (lv_at hl 0 rfl) ?_
  refine lv_bipush (v := (8 : Int32)) E.1 E.2.1 dX3_init_5 (by decide) ?_
  obtain ⟨g1, h⟩ := gd_r h
  refine k_newq (t := 0) E hAO hW g1 (Or.inl ⟨rfl, rfl⟩) kw_38 (by decide) rfl (Nat.le_of_ble_eq_true rfl) ⟨(Nat.le_of_ble_eq_true rfl), (Nat.le_of_ble_eq_true rfl)⟩ dX3_init_7 (fun x2 H ex2 hW => ?_)
  have h := bnd_r ex2 h
  obtain ⟨g3, h⟩ := gd_r h
  obtain ⟨g4, h⟩ := gd_r h
  obtain ⟨g5, h⟩ := gd_r h
  refine k_putF E hW (k := 0) (T := TX3) (n := 2) (ty := tyX3 0) hin0 g3 g4 g5 rfl in_X3 (by decide) rfl rfl tyX3_ok nmX3 ⟨rfl, rfl, rfl, rfl⟩ rfl (by decide +kernel) ⟨fun _ => rfl, fun _ => rfl⟩ kw_61 dX3_init_10 (fun x6 H locs ex6 hW => ?_)
  have h := bnd_r ex6 h
  refine lv_iconst (v := (0 : Int32)) E.1 E.2.1 dX3_init_13 (by decide) ?_
  refine lv_istore_n (lv' := [(1, .int (0 : Int32)), (0, .ref (G.2.2.2 + q0))]) E.1 E.2.1 dX3_init_14 rfl hl (by decide) rfl (fun ls hl => ?_)
  refine lv_iload_n E.1 E.2.1 dX3_init_15 rfl (lv_at hl 0 rfl) ?_
  refine lv_bipush (v := (8 : Int32)) E.1 E.2.1 dX3_init_16 (by decide) ?_
  refine lv_icmp_ge (tgt := 40) E.1 E.2.1 dX3_init_18 (by decide) (fun g => absurd g (by decide)) (fun g => ?_)
  refine lv_aload_n E.1 E.2.1 dX3_init_21 rfl (lv_at hl 1 rfl) ?_
  obtain ⟨g7, h⟩ := gd_r h
  obtain ⟨g8, h⟩ := gd_r h
  obtain ⟨g9, h⟩ := gd_r h
  refine k_get E hW (k := 0) (T := TX3) (n := 2) g7 g8 g9 rfl in_X3 (by decide) rfl rfl ⟨rfl, rfl, rfl⟩ kw_61 dX3_init_22 ?_
  refine lv_iload_n E.1 E.2.1 dX3_init_25 rfl (lv_at hl 0 rfl) ?_
  obtain ⟨g10, h⟩ := gd_r h
  refine k_new E hW (T := TX2) (ty := tyX2) g10 rfl in_X2 tyX2_ok rfl df_X2 kw_38 kw_40 kw_3 ⟨(Nat.le_of_ble_eq_true rfl), (Nat.le_of_ble_eq_true rfl)⟩ dX3_init_26 (fun x11 H ex11 hW => ?_)
  have h := bnd_r ex11 h
  refine lv_dup E.1 E.2.1 dX3_init_29 rfl ?_
  obtain ⟨x12, cx12, h⟩ := obk_r h
  obtain ⟨g13, h⟩ := gd_r h
  refine k_IN (rest := [.ref (G.2.2.2 + x6.1), .int (0 : Int32), .ref (G.2.2.2 + (rC q0 0))]) E hAO hW (m_X2_init cx12) g13 kw_41 wi_X2_init yo_X2_init ⟨rfl, rfl⟩ ⟨(Nat.le_of_ble_eq_true rfl), (Nat.le_of_ble_eq_true rfl)⟩ (lv_size hl) (Nat.le_of_ble_eq_true rfl) ⟨(Nat.le_of_ble_eq_true rfl), (Nat.le_of_ble_eq_true rfl)⟩ dX3_init_30 (fun H locs hW => ?_)
  obtain ⟨g14, h⟩ := gd_r h
  obtain ⟨g15, h⟩ := gd_r h
  obtain ⟨g16, h⟩ := gd_r h
  obtain ⟨g17, h⟩ := gd_r h
  obtain ⟨g18, h⟩ := gd_r h
  refine k_aast (t := 0) E hW (pr_eq g14.1) g15 g14.2 g16 g17 g18 rfl rfl dX3_init_33 (fun x19 H locs ex19 hW => ?_)
  have h := bnd_r ex19 h
  refine lv_iinc (v := (1 : Int32)) (lv' := [(1, .int (1 : Int32)), (0, .ref (G.2.2.2 + q0))]) E.1 E.2.1 dX3_init_34 hl (k := 0) rfl (by decide) (by decide) rfl (fun ls hl => ?_)
  refine lv_goto (tgt := 15) E.1 E.2.1 dX3_init_37 (by decide) ?_
  refine lv_iload_n E.1 E.2.1 dX3_init_15 rfl (lv_at hl 0 rfl) ?_
  refine lv_bipush (v := (8 : Int32)) E.1 E.2.1 dX3_init_16 (by decide) ?_
  refine lv_icmp_ge (tgt := 40) E.1 E.2.1 dX3_init_18 (by decide) (fun g => absurd g (by decide)) (fun g => ?_)
  refine lv_aload_n E.1 E.2.1 dX3_init_21 rfl (lv_at hl 1 rfl) ?_
  obtain ⟨g20, h⟩ := gd_r h
  obtain ⟨g21, h⟩ := gd_r h
  obtain ⟨g22, h⟩ := gd_r h
  refine k_get E hW (k := 0) (T := TX3) (n := 2) g20 g21 g22 rfl in_X3 (by decide) rfl rfl ⟨rfl, rfl, rfl⟩ kw_61 dX3_init_22 ?_
  refine lv_iload_n E.1 E.2.1 dX3_init_25 rfl (lv_at hl 0 rfl) ?_
  obtain ⟨g23, h⟩ := gd_r h
  refine k_new E hW (T := TX2) (ty := tyX2) g23 rfl in_X2 tyX2_ok rfl df_X2 kw_38 kw_40 kw_3 ⟨(Nat.le_of_ble_eq_true rfl), (Nat.le_of_ble_eq_true rfl)⟩ dX3_init_26 (fun x24 H ex24 hW => ?_)
  have h := bnd_r ex24 h
  refine lv_dup E.1 E.2.1 dX3_init_29 rfl ?_
  obtain ⟨x25, cx25, h⟩ := obk_r h
  obtain ⟨g26, h⟩ := gd_r h
  refine k_IN (rest := [.ref (G.2.2.2 + x19.1), .int (1 : Int32), .ref (G.2.2.2 + (rC q0 0))]) E hAO hW (m_X2_init cx25) g26 kw_41 wi_X2_init yo_X2_init ⟨rfl, rfl⟩ ⟨(Nat.le_of_ble_eq_true rfl), (Nat.le_of_ble_eq_true rfl)⟩ (lv_size hl) (Nat.le_of_ble_eq_true rfl) ⟨(Nat.le_of_ble_eq_true rfl), (Nat.le_of_ble_eq_true rfl)⟩ dX3_init_30 (fun H locs hW => ?_)
  obtain ⟨g27, h⟩ := gd_r h
  obtain ⟨g28, h⟩ := gd_r h
  obtain ⟨g29, h⟩ := gd_r h
  obtain ⟨g30, h⟩ := gd_r h
  obtain ⟨g31, h⟩ := gd_r h
  refine k_aast (t := 0) E hW (pr_eq g27.1) g28 g27.2 g29 g30 g31 rfl rfl dX3_init_33 (fun x32 H locs ex32 hW => ?_)
  have h := bnd_r ex32 h
  refine lv_iinc (v := (2 : Int32)) (lv' := [(1, .int (2 : Int32)), (0, .ref (G.2.2.2 + q0))]) E.1 E.2.1 dX3_init_34 hl (k := 0) rfl (by decide) (by decide) rfl (fun ls hl => ?_)
  refine lv_goto (tgt := 15) E.1 E.2.1 dX3_init_37 (by decide) ?_
  refine lv_iload_n E.1 E.2.1 dX3_init_15 rfl (lv_at hl 0 rfl) ?_
  refine lv_bipush (v := (8 : Int32)) E.1 E.2.1 dX3_init_16 (by decide) ?_
  refine lv_icmp_ge (tgt := 40) E.1 E.2.1 dX3_init_18 (by decide) (fun g => absurd g (by decide)) (fun g => ?_)
  refine lv_aload_n E.1 E.2.1 dX3_init_21 rfl (lv_at hl 1 rfl) ?_
  obtain ⟨g33, h⟩ := gd_r h
  obtain ⟨g34, h⟩ := gd_r h
  obtain ⟨g35, h⟩ := gd_r h
  refine k_get E hW (k := 0) (T := TX3) (n := 2) g33 g34 g35 rfl in_X3 (by decide) rfl rfl ⟨rfl, rfl, rfl⟩ kw_61 dX3_init_22 ?_
  refine lv_iload_n E.1 E.2.1 dX3_init_25 rfl (lv_at hl 0 rfl) ?_
  obtain ⟨g36, h⟩ := gd_r h
  refine k_new E hW (T := TX2) (ty := tyX2) g36 rfl in_X2 tyX2_ok rfl df_X2 kw_38 kw_40 kw_3 ⟨(Nat.le_of_ble_eq_true rfl), (Nat.le_of_ble_eq_true rfl)⟩ dX3_init_26 (fun x37 H ex37 hW => ?_)
  have h := bnd_r ex37 h
  refine lv_dup E.1 E.2.1 dX3_init_29 rfl ?_
  obtain ⟨x38, cx38, h⟩ := obk_r h
  obtain ⟨g39, h⟩ := gd_r h
  refine k_IN (rest := [.ref (G.2.2.2 + x32.1), .int (2 : Int32), .ref (G.2.2.2 + (rC q0 0))]) E hAO hW (m_X2_init cx38) g39 kw_41 wi_X2_init yo_X2_init ⟨rfl, rfl⟩ ⟨(Nat.le_of_ble_eq_true rfl), (Nat.le_of_ble_eq_true rfl)⟩ (lv_size hl) (Nat.le_of_ble_eq_true rfl) ⟨(Nat.le_of_ble_eq_true rfl), (Nat.le_of_ble_eq_true rfl)⟩ dX3_init_30 (fun H locs hW => ?_)
  obtain ⟨g40, h⟩ := gd_r h
  obtain ⟨g41, h⟩ := gd_r h
  obtain ⟨g42, h⟩ := gd_r h
  obtain ⟨g43, h⟩ := gd_r h
  obtain ⟨g44, h⟩ := gd_r h
  refine k_aast (t := 0) E hW (pr_eq g40.1) g41 g40.2 g42 g43 g44 rfl rfl dX3_init_33 (fun x45 H locs ex45 hW => ?_)
  have h := bnd_r ex45 h
  refine lv_iinc (v := (3 : Int32)) (lv' := [(1, .int (3 : Int32)), (0, .ref (G.2.2.2 + q0))]) E.1 E.2.1 dX3_init_34 hl (k := 0) rfl (by decide) (by decide) rfl (fun ls hl => ?_)
  refine lv_goto (tgt := 15) E.1 E.2.1 dX3_init_37 (by decide) ?_
  refine lv_iload_n E.1 E.2.1 dX3_init_15 rfl (lv_at hl 0 rfl) ?_
  refine lv_bipush (v := (8 : Int32)) E.1 E.2.1 dX3_init_16 (by decide) ?_
  refine lv_icmp_ge (tgt := 40) E.1 E.2.1 dX3_init_18 (by decide) (fun g => absurd g (by decide)) (fun g => ?_)
  refine lv_aload_n E.1 E.2.1 dX3_init_21 rfl (lv_at hl 1 rfl) ?_
  obtain ⟨g46, h⟩ := gd_r h
  obtain ⟨g47, h⟩ := gd_r h
  obtain ⟨g48, h⟩ := gd_r h
  refine k_get E hW (k := 0) (T := TX3) (n := 2) g46 g47 g48 rfl in_X3 (by decide) rfl rfl ⟨rfl, rfl, rfl⟩ kw_61 dX3_init_22 ?_
  refine lv_iload_n E.1 E.2.1 dX3_init_25 rfl (lv_at hl 0 rfl) ?_
  obtain ⟨g49, h⟩ := gd_r h
  refine k_new E hW (T := TX2) (ty := tyX2) g49 rfl in_X2 tyX2_ok rfl df_X2 kw_38 kw_40 kw_3 ⟨(Nat.le_of_ble_eq_true rfl), (Nat.le_of_ble_eq_true rfl)⟩ dX3_init_26 (fun x50 H ex50 hW => ?_)
  have h := bnd_r ex50 h
  refine lv_dup E.1 E.2.1 dX3_init_29 rfl ?_
  obtain ⟨x51, cx51, h⟩ := obk_r h
  obtain ⟨g52, h⟩ := gd_r h
  refine k_IN (rest := [.ref (G.2.2.2 + x45.1), .int (3 : Int32), .ref (G.2.2.2 + (rC q0 0))]) E hAO hW (m_X2_init cx51) g52 kw_41 wi_X2_init yo_X2_init ⟨rfl, rfl⟩ ⟨(Nat.le_of_ble_eq_true rfl), (Nat.le_of_ble_eq_true rfl)⟩ (lv_size hl) (Nat.le_of_ble_eq_true rfl) ⟨(Nat.le_of_ble_eq_true rfl), (Nat.le_of_ble_eq_true rfl)⟩ dX3_init_30 (fun H locs hW => ?_)
  obtain ⟨g53, h⟩ := gd_r h
  obtain ⟨g54, h⟩ := gd_r h
  obtain ⟨g55, h⟩ := gd_r h
  obtain ⟨g56, h⟩ := gd_r h
  obtain ⟨g57, h⟩ := gd_r h
  refine k_aast (t := 0) E hW (pr_eq g53.1) g54 g53.2 g55 g56 g57 rfl rfl dX3_init_33 (fun x58 H locs ex58 hW => ?_)
  have h := bnd_r ex58 h
  refine lv_iinc (v := (4 : Int32)) (lv' := [(1, .int (4 : Int32)), (0, .ref (G.2.2.2 + q0))]) E.1 E.2.1 dX3_init_34 hl (k := 0) rfl (by decide) (by decide) rfl (fun ls hl => ?_)
  refine lv_goto (tgt := 15) E.1 E.2.1 dX3_init_37 (by decide) ?_
  refine lv_iload_n E.1 E.2.1 dX3_init_15 rfl (lv_at hl 0 rfl) ?_
  refine lv_bipush (v := (8 : Int32)) E.1 E.2.1 dX3_init_16 (by decide) ?_
  refine lv_icmp_ge (tgt := 40) E.1 E.2.1 dX3_init_18 (by decide) (fun g => absurd g (by decide)) (fun g => ?_)
  refine lv_aload_n E.1 E.2.1 dX3_init_21 rfl (lv_at hl 1 rfl) ?_
  obtain ⟨g59, h⟩ := gd_r h
  obtain ⟨g60, h⟩ := gd_r h
  obtain ⟨g61, h⟩ := gd_r h
  refine k_get E hW (k := 0) (T := TX3) (n := 2) g59 g60 g61 rfl in_X3 (by decide) rfl rfl ⟨rfl, rfl, rfl⟩ kw_61 dX3_init_22 ?_
  refine lv_iload_n E.1 E.2.1 dX3_init_25 rfl (lv_at hl 0 rfl) ?_
  obtain ⟨g62, h⟩ := gd_r h
  refine k_new E hW (T := TX2) (ty := tyX2) g62 rfl in_X2 tyX2_ok rfl df_X2 kw_38 kw_40 kw_3 ⟨(Nat.le_of_ble_eq_true rfl), (Nat.le_of_ble_eq_true rfl)⟩ dX3_init_26 (fun x63 H ex63 hW => ?_)
  have h := bnd_r ex63 h
  refine lv_dup E.1 E.2.1 dX3_init_29 rfl ?_
  obtain ⟨x64, cx64, h⟩ := obk_r h
  obtain ⟨g65, h⟩ := gd_r h
  refine k_IN (rest := [.ref (G.2.2.2 + x58.1), .int (4 : Int32), .ref (G.2.2.2 + (rC q0 0))]) E hAO hW (m_X2_init cx64) g65 kw_41 wi_X2_init yo_X2_init ⟨rfl, rfl⟩ ⟨(Nat.le_of_ble_eq_true rfl), (Nat.le_of_ble_eq_true rfl)⟩ (lv_size hl) (Nat.le_of_ble_eq_true rfl) ⟨(Nat.le_of_ble_eq_true rfl), (Nat.le_of_ble_eq_true rfl)⟩ dX3_init_30 (fun H locs hW => ?_)
  obtain ⟨g66, h⟩ := gd_r h
  obtain ⟨g67, h⟩ := gd_r h
  obtain ⟨g68, h⟩ := gd_r h
  obtain ⟨g69, h⟩ := gd_r h
  obtain ⟨g70, h⟩ := gd_r h
  refine k_aast (t := 0) E hW (pr_eq g66.1) g67 g66.2 g68 g69 g70 rfl rfl dX3_init_33 (fun x71 H locs ex71 hW => ?_)
  have h := bnd_r ex71 h
  refine lv_iinc (v := (5 : Int32)) (lv' := [(1, .int (5 : Int32)), (0, .ref (G.2.2.2 + q0))]) E.1 E.2.1 dX3_init_34 hl (k := 0) rfl (by decide) (by decide) rfl (fun ls hl => ?_)
  refine lv_goto (tgt := 15) E.1 E.2.1 dX3_init_37 (by decide) ?_
  refine lv_iload_n E.1 E.2.1 dX3_init_15 rfl (lv_at hl 0 rfl) ?_
  refine lv_bipush (v := (8 : Int32)) E.1 E.2.1 dX3_init_16 (by decide) ?_
  refine lv_icmp_ge (tgt := 40) E.1 E.2.1 dX3_init_18 (by decide) (fun g => absurd g (by decide)) (fun g => ?_)
  refine lv_aload_n E.1 E.2.1 dX3_init_21 rfl (lv_at hl 1 rfl) ?_
  obtain ⟨g72, h⟩ := gd_r h
  obtain ⟨g73, h⟩ := gd_r h
  obtain ⟨g74, h⟩ := gd_r h
  refine k_get E hW (k := 0) (T := TX3) (n := 2) g72 g73 g74 rfl in_X3 (by decide) rfl rfl ⟨rfl, rfl, rfl⟩ kw_61 dX3_init_22 ?_
  refine lv_iload_n E.1 E.2.1 dX3_init_25 rfl (lv_at hl 0 rfl) ?_
  obtain ⟨g75, h⟩ := gd_r h
  refine k_new E hW (T := TX2) (ty := tyX2) g75 rfl in_X2 tyX2_ok rfl df_X2 kw_38 kw_40 kw_3 ⟨(Nat.le_of_ble_eq_true rfl), (Nat.le_of_ble_eq_true rfl)⟩ dX3_init_26 (fun x76 H ex76 hW => ?_)
  have h := bnd_r ex76 h
  refine lv_dup E.1 E.2.1 dX3_init_29 rfl ?_
  obtain ⟨x77, cx77, h⟩ := obk_r h
  obtain ⟨g78, h⟩ := gd_r h
  refine k_IN (rest := [.ref (G.2.2.2 + x71.1), .int (5 : Int32), .ref (G.2.2.2 + (rC q0 0))]) E hAO hW (m_X2_init cx77) g78 kw_41 wi_X2_init yo_X2_init ⟨rfl, rfl⟩ ⟨(Nat.le_of_ble_eq_true rfl), (Nat.le_of_ble_eq_true rfl)⟩ (lv_size hl) (Nat.le_of_ble_eq_true rfl) ⟨(Nat.le_of_ble_eq_true rfl), (Nat.le_of_ble_eq_true rfl)⟩ dX3_init_30 (fun H locs hW => ?_)
  obtain ⟨g79, h⟩ := gd_r h
  obtain ⟨g80, h⟩ := gd_r h
  obtain ⟨g81, h⟩ := gd_r h
  obtain ⟨g82, h⟩ := gd_r h
  obtain ⟨g83, h⟩ := gd_r h
  refine k_aast (t := 0) E hW (pr_eq g79.1) g80 g79.2 g81 g82 g83 rfl rfl dX3_init_33 (fun x84 H locs ex84 hW => ?_)
  have h := bnd_r ex84 h
  refine lv_iinc (v := (6 : Int32)) (lv' := [(1, .int (6 : Int32)), (0, .ref (G.2.2.2 + q0))]) E.1 E.2.1 dX3_init_34 hl (k := 0) rfl (by decide) (by decide) rfl (fun ls hl => ?_)
  refine lv_goto (tgt := 15) E.1 E.2.1 dX3_init_37 (by decide) ?_
  refine lv_iload_n E.1 E.2.1 dX3_init_15 rfl (lv_at hl 0 rfl) ?_
  refine lv_bipush (v := (8 : Int32)) E.1 E.2.1 dX3_init_16 (by decide) ?_
  refine lv_icmp_ge (tgt := 40) E.1 E.2.1 dX3_init_18 (by decide) (fun g => absurd g (by decide)) (fun g => ?_)
  refine lv_aload_n E.1 E.2.1 dX3_init_21 rfl (lv_at hl 1 rfl) ?_
  obtain ⟨g85, h⟩ := gd_r h
  obtain ⟨g86, h⟩ := gd_r h
  obtain ⟨g87, h⟩ := gd_r h
  refine k_get E hW (k := 0) (T := TX3) (n := 2) g85 g86 g87 rfl in_X3 (by decide) rfl rfl ⟨rfl, rfl, rfl⟩ kw_61 dX3_init_22 ?_
  refine lv_iload_n E.1 E.2.1 dX3_init_25 rfl (lv_at hl 0 rfl) ?_
  obtain ⟨g88, h⟩ := gd_r h
  refine k_new E hW (T := TX2) (ty := tyX2) g88 rfl in_X2 tyX2_ok rfl df_X2 kw_38 kw_40 kw_3 ⟨(Nat.le_of_ble_eq_true rfl), (Nat.le_of_ble_eq_true rfl)⟩ dX3_init_26 (fun x89 H ex89 hW => ?_)
  have h := bnd_r ex89 h
  refine lv_dup E.1 E.2.1 dX3_init_29 rfl ?_
  obtain ⟨x90, cx90, h⟩ := obk_r h
  obtain ⟨g91, h⟩ := gd_r h
  refine k_IN (rest := [.ref (G.2.2.2 + x84.1), .int (6 : Int32), .ref (G.2.2.2 + (rC q0 0))]) E hAO hW (m_X2_init cx90) g91 kw_41 wi_X2_init yo_X2_init ⟨rfl, rfl⟩ ⟨(Nat.le_of_ble_eq_true rfl), (Nat.le_of_ble_eq_true rfl)⟩ (lv_size hl) (Nat.le_of_ble_eq_true rfl) ⟨(Nat.le_of_ble_eq_true rfl), (Nat.le_of_ble_eq_true rfl)⟩ dX3_init_30 (fun H locs hW => ?_)
  obtain ⟨g92, h⟩ := gd_r h
  obtain ⟨g93, h⟩ := gd_r h
  obtain ⟨g94, h⟩ := gd_r h
  obtain ⟨g95, h⟩ := gd_r h
  obtain ⟨g96, h⟩ := gd_r h
  refine k_aast (t := 0) E hW (pr_eq g92.1) g93 g92.2 g94 g95 g96 rfl rfl dX3_init_33 (fun x97 H locs ex97 hW => ?_)
  have h := bnd_r ex97 h
  refine lv_iinc (v := (7 : Int32)) (lv' := [(1, .int (7 : Int32)), (0, .ref (G.2.2.2 + q0))]) E.1 E.2.1 dX3_init_34 hl (k := 0) rfl (by decide) (by decide) rfl (fun ls hl => ?_)
  refine lv_goto (tgt := 15) E.1 E.2.1 dX3_init_37 (by decide) ?_
  refine lv_iload_n E.1 E.2.1 dX3_init_15 rfl (lv_at hl 0 rfl) ?_
  refine lv_bipush (v := (8 : Int32)) E.1 E.2.1 dX3_init_16 (by decide) ?_
  refine lv_icmp_ge (tgt := 40) E.1 E.2.1 dX3_init_18 (by decide) (fun g => absurd g (by decide)) (fun g => ?_)
  refine lv_aload_n E.1 E.2.1 dX3_init_21 rfl (lv_at hl 1 rfl) ?_
  obtain ⟨g98, h⟩ := gd_r h
  obtain ⟨g99, h⟩ := gd_r h
  obtain ⟨g100, h⟩ := gd_r h
  refine k_get E hW (k := 0) (T := TX3) (n := 2) g98 g99 g100 rfl in_X3 (by decide) rfl rfl ⟨rfl, rfl, rfl⟩ kw_61 dX3_init_22 ?_
  refine lv_iload_n E.1 E.2.1 dX3_init_25 rfl (lv_at hl 0 rfl) ?_
  obtain ⟨g101, h⟩ := gd_r h
  refine k_new E hW (T := TX2) (ty := tyX2) g101 rfl in_X2 tyX2_ok rfl df_X2 kw_38 kw_40 kw_3 ⟨(Nat.le_of_ble_eq_true rfl), (Nat.le_of_ble_eq_true rfl)⟩ dX3_init_26 (fun x102 H ex102 hW => ?_)
  have h := bnd_r ex102 h
  refine lv_dup E.1 E.2.1 dX3_init_29 rfl ?_
  obtain ⟨x103, cx103, h⟩ := obk_r h
  obtain ⟨g104, h⟩ := gd_r h
  refine k_IN (rest := [.ref (G.2.2.2 + x97.1), .int (7 : Int32), .ref (G.2.2.2 + (rC q0 0))]) E hAO hW (m_X2_init cx103) g104 kw_41 wi_X2_init yo_X2_init ⟨rfl, rfl⟩ ⟨(Nat.le_of_ble_eq_true rfl), (Nat.le_of_ble_eq_true rfl)⟩ (lv_size hl) (Nat.le_of_ble_eq_true rfl) ⟨(Nat.le_of_ble_eq_true rfl), (Nat.le_of_ble_eq_true rfl)⟩ dX3_init_30 (fun H locs hW => ?_)
  obtain ⟨g105, h⟩ := gd_r h
  obtain ⟨g106, h⟩ := gd_r h
  obtain ⟨g107, h⟩ := gd_r h
  obtain ⟨g108, h⟩ := gd_r h
  obtain ⟨g109, h⟩ := gd_r h
  refine k_aast (t := 0) E hW (pr_eq g105.1) g106 g105.2 g107 g108 g109 rfl rfl dX3_init_33 (fun x110 H locs ex110 hW => ?_)
  have h := bnd_r ex110 h
  refine lv_iinc (v := (8 : Int32)) (lv' := [(1, .int (8 : Int32)), (0, .ref (G.2.2.2 + q0))]) E.1 E.2.1 dX3_init_34 hl (k := 0) rfl (by decide) (by decide) rfl (fun ls hl => ?_)
  refine lv_goto (tgt := 15) E.1 E.2.1 dX3_init_37 (by decide) ?_
  refine lv_iload_n E.1 E.2.1 dX3_init_15 rfl (lv_at hl 0 rfl) ?_
  refine lv_bipush (v := (8 : Int32)) E.1 E.2.1 dX3_init_16 (by decide) ?_
  refine lv_icmp_ge (tgt := 40) E.1 E.2.1 dX3_init_18 (by decide) (fun g => ?_) (fun g => absurd (by decide) g)
  exact k_ret E hW hr hlk h (Nat.le_of_ble_eq_true rfl) (Nat.le_of_ble_eq_true rfl) dX3_init_40
set_option maxHeartbeats 4000000 in
set_option maxRecDepth 100000 in
theorem m_X1_init {l : Launch} {G : GP} {sz q0 : Nat} {x x0 : Sg} (h : f_X1_init q0 x = some x0) : Met l yX1_init [.code yX1_init cX1_init 2 none] ({ frames := 3, cells := 145, slots := 920, locals := 65 } : Room) (va_Pc [Value.ref (G.2.2.2 + q0)] (PreK G skC sz x)) (QO (PoK G skC x0) (Aw G.2.2.2 skC.1 sz) none) 145 920 (Aw G.2.2.2 skC.1 sz) := by
  refine mkMetK (by decide +kernel) (Nat.le_of_ble_eq_true rfl) skC_ok ?_
  intro p e s m below meth c ls E hAO hW hl hr hlk hin0
  have hl : lv_has ls 2 [(0, .ref (G.2.2.2 + q0))] := hl
  generalize Aw G.2.2.2 skC.1 s.heap.size = A0 at E hW ⊢
  generalize ([Value.ref (G.2.2.2 + q0)] : List Value).toArray = args
  unfold f_X1_init at h
  refine lv_aload_n E.1 E.2.1 dX1_init_0 rfl (lv_at hl 0 rfl) ?_
  refine k_obj E (lv_size hl) kw_77 kw_30 kw_31 ⟨(Nat.le_of_ble_eq_true rfl), (Nat.le_of_ble_eq_true rfl)⟩ dX1_init_1 ?_
  refine lv_aload_n E.1 E.2.1 dX1_init_4 rfl (lv_at hl 0 rfl) ?_
  refine lv_bipush (v := (8 : Int32)) E.1 E.2.1 dX1_init_5 (by decide) ?_
  obtain ⟨g1, h⟩ := gd_r h
  refine k_newq (t := 1) E hAO hW g1 (Or.inr ⟨rfl, rfl⟩) kw_78 (by decide) rfl (Nat.le_of_ble_eq_true rfl) ⟨(Nat.le_of_ble_eq_true rfl), (Nat.le_of_ble_eq_true rfl)⟩ dX1_init_7 (fun x2 H ex2 hW => ?_)
  have h := bnd_r ex2 h
  obtain ⟨g3, h⟩ := gd_r h
  obtain ⟨g4, h⟩ := gd_r h
  obtain ⟨g5, h⟩ := gd_r h
  refine k_putF E hW (k := 0) (T := TX1) (n := 3) (ty := tyX1 0) hin0 g3 g4 g5 rfl in_X1 (by decide) rfl rfl tyX1_ok nmX1 ⟨rfl, rfl, rfl, rfl⟩ rfl (by decide +kernel) ⟨fun _ => rfl, fun _ => rfl⟩ kw_81 dX1_init_10 (fun x6 H locs ex6 hW => ?_)
  have h := bnd_r ex6 h
  refine lv_iconst (v := (0 : Int32)) E.1 E.2.1 dX1_init_13 (by decide) ?_
  refine lv_istore_n (lv' := [(1, .int (0 : Int32)), (0, .ref (G.2.2.2 + q0))]) E.1 E.2.1 dX1_init_14 rfl hl (by decide) rfl (fun ls hl => ?_)
  refine lv_iload_n E.1 E.2.1 dX1_init_15 rfl (lv_at hl 0 rfl) ?_
  refine lv_bipush (v := (8 : Int32)) E.1 E.2.1 dX1_init_16 (by decide) ?_
  refine lv_icmp_ge (tgt := 40) E.1 E.2.1 dX1_init_18 (by decide) (fun g => absurd g (by decide)) (fun g => ?_)
  refine lv_aload_n E.1 E.2.1 dX1_init_21 rfl (lv_at hl 1 rfl) ?_
  obtain ⟨g7, h⟩ := gd_r h
  obtain ⟨g8, h⟩ := gd_r h
  obtain ⟨g9, h⟩ := gd_r h
  refine k_get E hW (k := 0) (T := TX1) (n := 3) g7 g8 g9 rfl in_X1 (by decide) rfl rfl ⟨rfl, rfl, rfl⟩ kw_81 dX1_init_22 ?_
  refine lv_iload_n E.1 E.2.1 dX1_init_25 rfl (lv_at hl 0 rfl) ?_
  obtain ⟨g10, h⟩ := gd_r h
  refine k_new E hW (T := TX3) (ty := tyX3) g10 rfl in_X3 tyX3_ok rfl df_X3 kw_78 kw_33 kw_2 ⟨(Nat.le_of_ble_eq_true rfl), (Nat.le_of_ble_eq_true rfl)⟩ dX1_init_26 (fun x11 H ex11 hW => ?_)
  have h := bnd_r ex11 h
  refine lv_dup E.1 E.2.1 dX1_init_29 rfl ?_
  obtain ⟨x12, cx12, h⟩ := obk_r h
  obtain ⟨g13, h⟩ := gd_r h
  refine k_I (rest := [.ref (G.2.2.2 + x6.1), .int (0 : Int32), .ref (G.2.2.2 + (rC q0 0))]) E hAO hW (m_X3_init cx12) g13 kw_80 wi_X3_init yo_X3_init ⟨rfl, rfl⟩ ⟨(Nat.le_of_ble_eq_true rfl), (Nat.le_of_ble_eq_true rfl)⟩ (lv_size hl) (Nat.le_of_ble_eq_true rfl) ⟨(Nat.le_of_ble_eq_true rfl), (Nat.le_of_ble_eq_true rfl)⟩ dX1_init_30 (fun H locs hW => ?_)
  obtain ⟨g14, h⟩ := gd_r h
  obtain ⟨g15, h⟩ := gd_r h
  obtain ⟨g16, h⟩ := gd_r h
  obtain ⟨g17, h⟩ := gd_r h
  obtain ⟨g18, h⟩ := gd_r h
  refine k_aast (t := 1) E hW (pr_eq g14.1) g15 g14.2 g16 g17 g18 rfl rfl dX1_init_33 (fun x19 H locs ex19 hW => ?_)
  have h := bnd_r ex19 h
  refine lv_iinc (v := (1 : Int32)) (lv' := [(1, .int (1 : Int32)), (0, .ref (G.2.2.2 + q0))]) E.1 E.2.1 dX1_init_34 hl (k := 0) rfl (by decide) (by decide) rfl (fun ls hl => ?_)
  refine lv_goto (tgt := 15) E.1 E.2.1 dX1_init_37 (by decide) ?_
  refine lv_iload_n E.1 E.2.1 dX1_init_15 rfl (lv_at hl 0 rfl) ?_
  refine lv_bipush (v := (8 : Int32)) E.1 E.2.1 dX1_init_16 (by decide) ?_
  refine lv_icmp_ge (tgt := 40) E.1 E.2.1 dX1_init_18 (by decide) (fun g => absurd g (by decide)) (fun g => ?_)
  refine lv_aload_n E.1 E.2.1 dX1_init_21 rfl (lv_at hl 1 rfl) ?_
  obtain ⟨g20, h⟩ := gd_r h
  obtain ⟨g21, h⟩ := gd_r h
  obtain ⟨g22, h⟩ := gd_r h
  refine k_get E hW (k := 0) (T := TX1) (n := 3) g20 g21 g22 rfl in_X1 (by decide) rfl rfl ⟨rfl, rfl, rfl⟩ kw_81 dX1_init_22 ?_
  refine lv_iload_n E.1 E.2.1 dX1_init_25 rfl (lv_at hl 0 rfl) ?_
  obtain ⟨g23, h⟩ := gd_r h
  refine k_new E hW (T := TX3) (ty := tyX3) g23 rfl in_X3 tyX3_ok rfl df_X3 kw_78 kw_33 kw_2 ⟨(Nat.le_of_ble_eq_true rfl), (Nat.le_of_ble_eq_true rfl)⟩ dX1_init_26 (fun x24 H ex24 hW => ?_)
  have h := bnd_r ex24 h
  refine lv_dup E.1 E.2.1 dX1_init_29 rfl ?_
  obtain ⟨x25, cx25, h⟩ := obk_r h
  obtain ⟨g26, h⟩ := gd_r h
  refine k_I (rest := [.ref (G.2.2.2 + x19.1), .int (1 : Int32), .ref (G.2.2.2 + (rC q0 0))]) E hAO hW (m_X3_init cx25) g26 kw_80 wi_X3_init yo_X3_init ⟨rfl, rfl⟩ ⟨(Nat.le_of_ble_eq_true rfl), (Nat.le_of_ble_eq_true rfl)⟩ (lv_size hl) (Nat.le_of_ble_eq_true rfl) ⟨(Nat.le_of_ble_eq_true rfl), (Nat.le_of_ble_eq_true rfl)⟩ dX1_init_30 (fun H locs hW => ?_)
  obtain ⟨g27, h⟩ := gd_r h
  obtain ⟨g28, h⟩ := gd_r h
  obtain ⟨g29, h⟩ := gd_r h
  obtain ⟨g30, h⟩ := gd_r h
  obtain ⟨g31, h⟩ := gd_r h
  refine k_aast (t := 1) E hW (pr_eq g27.1) g28 g27.2 g29 g30 g31 rfl rfl dX1_init_33 (fun x32 H locs ex32 hW => ?_)
  have h := bnd_r ex32 h
  refine lv_iinc (v := (2 : Int32)) (lv' := [(1, .int (2 : Int32)), (0, .ref (G.2.2.2 + q0))]) E.1 E.2.1 dX1_init_34 hl (k := 0) rfl (by decide) (by decide) rfl (fun ls hl => ?_)
  refine lv_goto (tgt := 15) E.1 E.2.1 dX1_init_37 (by decide) ?_
  refine lv_iload_n E.1 E.2.1 dX1_init_15 rfl (lv_at hl 0 rfl) ?_
  refine lv_bipush (v := (8 : Int32)) E.1 E.2.1 dX1_init_16 (by decide) ?_
  refine lv_icmp_ge (tgt := 40) E.1 E.2.1 dX1_init_18 (by decide) (fun g => absurd g (by decide)) (fun g => ?_)
  refine lv_aload_n E.1 E.2.1 dX1_init_21 rfl (lv_at hl 1 rfl) ?_
  obtain ⟨g33, h⟩ := gd_r h
  obtain ⟨g34, h⟩ := gd_r h
  obtain ⟨g35, h⟩ := gd_r h
  refine k_get E hW (k := 0) (T := TX1) (n := 3) g33 g34 g35 rfl in_X1 (by decide) rfl rfl ⟨rfl, rfl, rfl⟩ kw_81 dX1_init_22 ?_
  refine lv_iload_n E.1 E.2.1 dX1_init_25 rfl (lv_at hl 0 rfl) ?_
  obtain ⟨g36, h⟩ := gd_r h
  refine k_new E hW (T := TX3) (ty := tyX3) g36 rfl in_X3 tyX3_ok rfl df_X3 kw_78 kw_33 kw_2 ⟨(Nat.le_of_ble_eq_true rfl), (Nat.le_of_ble_eq_true rfl)⟩ dX1_init_26 (fun x37 H ex37 hW => ?_)
  have h := bnd_r ex37 h
  refine lv_dup E.1 E.2.1 dX1_init_29 rfl ?_
  obtain ⟨x38, cx38, h⟩ := obk_r h
  obtain ⟨g39, h⟩ := gd_r h
  refine k_I (rest := [.ref (G.2.2.2 + x32.1), .int (2 : Int32), .ref (G.2.2.2 + (rC q0 0))]) E hAO hW (m_X3_init cx38) g39 kw_80 wi_X3_init yo_X3_init ⟨rfl, rfl⟩ ⟨(Nat.le_of_ble_eq_true rfl), (Nat.le_of_ble_eq_true rfl)⟩ (lv_size hl) (Nat.le_of_ble_eq_true rfl) ⟨(Nat.le_of_ble_eq_true rfl), (Nat.le_of_ble_eq_true rfl)⟩ dX1_init_30 (fun H locs hW => ?_)
  obtain ⟨g40, h⟩ := gd_r h
  obtain ⟨g41, h⟩ := gd_r h
  obtain ⟨g42, h⟩ := gd_r h
  obtain ⟨g43, h⟩ := gd_r h
  obtain ⟨g44, h⟩ := gd_r h
  refine k_aast (t := 1) E hW (pr_eq g40.1) g41 g40.2 g42 g43 g44 rfl rfl dX1_init_33 (fun x45 H locs ex45 hW => ?_)
  have h := bnd_r ex45 h
  refine lv_iinc (v := (3 : Int32)) (lv' := [(1, .int (3 : Int32)), (0, .ref (G.2.2.2 + q0))]) E.1 E.2.1 dX1_init_34 hl (k := 0) rfl (by decide) (by decide) rfl (fun ls hl => ?_)
  refine lv_goto (tgt := 15) E.1 E.2.1 dX1_init_37 (by decide) ?_
  refine lv_iload_n E.1 E.2.1 dX1_init_15 rfl (lv_at hl 0 rfl) ?_
  refine lv_bipush (v := (8 : Int32)) E.1 E.2.1 dX1_init_16 (by decide) ?_
  refine lv_icmp_ge (tgt := 40) E.1 E.2.1 dX1_init_18 (by decide) (fun g => absurd g (by decide)) (fun g => ?_)
  refine lv_aload_n E.1 E.2.1 dX1_init_21 rfl (lv_at hl 1 rfl) ?_
  obtain ⟨g46, h⟩ := gd_r h
  obtain ⟨g47, h⟩ := gd_r h
  obtain ⟨g48, h⟩ := gd_r h
  refine k_get E hW (k := 0) (T := TX1) (n := 3) g46 g47 g48 rfl in_X1 (by decide) rfl rfl ⟨rfl, rfl, rfl⟩ kw_81 dX1_init_22 ?_
  refine lv_iload_n E.1 E.2.1 dX1_init_25 rfl (lv_at hl 0 rfl) ?_
  obtain ⟨g49, h⟩ := gd_r h
  refine k_new E hW (T := TX3) (ty := tyX3) g49 rfl in_X3 tyX3_ok rfl df_X3 kw_78 kw_33 kw_2 ⟨(Nat.le_of_ble_eq_true rfl), (Nat.le_of_ble_eq_true rfl)⟩ dX1_init_26 (fun x50 H ex50 hW => ?_)
  have h := bnd_r ex50 h
  refine lv_dup E.1 E.2.1 dX1_init_29 rfl ?_
  obtain ⟨x51, cx51, h⟩ := obk_r h
  obtain ⟨g52, h⟩ := gd_r h
  refine k_I (rest := [.ref (G.2.2.2 + x45.1), .int (3 : Int32), .ref (G.2.2.2 + (rC q0 0))]) E hAO hW (m_X3_init cx51) g52 kw_80 wi_X3_init yo_X3_init ⟨rfl, rfl⟩ ⟨(Nat.le_of_ble_eq_true rfl), (Nat.le_of_ble_eq_true rfl)⟩ (lv_size hl) (Nat.le_of_ble_eq_true rfl) ⟨(Nat.le_of_ble_eq_true rfl), (Nat.le_of_ble_eq_true rfl)⟩ dX1_init_30 (fun H locs hW => ?_)
  obtain ⟨g53, h⟩ := gd_r h
  obtain ⟨g54, h⟩ := gd_r h
  obtain ⟨g55, h⟩ := gd_r h
  obtain ⟨g56, h⟩ := gd_r h
  obtain ⟨g57, h⟩ := gd_r h
  refine k_aast (t := 1) E hW (pr_eq g53.1) g54 g53.2 g55 g56 g57 rfl rfl dX1_init_33 (fun x58 H locs ex58 hW => ?_)
  have h := bnd_r ex58 h
  refine lv_iinc (v := (4 : Int32)) (lv' := [(1, .int (4 : Int32)), (0, .ref (G.2.2.2 + q0))]) E.1 E.2.1 dX1_init_34 hl (k := 0) rfl (by decide) (by decide) rfl (fun ls hl => ?_)
  refine lv_goto (tgt := 15) E.1 E.2.1 dX1_init_37 (by decide) ?_
  refine lv_iload_n E.1 E.2.1 dX1_init_15 rfl (lv_at hl 0 rfl) ?_
  refine lv_bipush (v := (8 : Int32)) E.1 E.2.1 dX1_init_16 (by decide) ?_
  refine lv_icmp_ge (tgt := 40) E.1 E.2.1 dX1_init_18 (by decide) (fun g => absurd g (by decide)) (fun g => ?_)
  refine lv_aload_n E.1 E.2.1 dX1_init_21 rfl (lv_at hl 1 rfl) ?_
  obtain ⟨g59, h⟩ := gd_r h
  obtain ⟨g60, h⟩ := gd_r h
  obtain ⟨g61, h⟩ := gd_r h
  refine k_get E hW (k := 0) (T := TX1) (n := 3) g59 g60 g61 rfl in_X1 (by decide) rfl rfl ⟨rfl, rfl, rfl⟩ kw_81 dX1_init_22 ?_
  refine lv_iload_n E.1 E.2.1 dX1_init_25 rfl (lv_at hl 0 rfl) ?_
  obtain ⟨g62, h⟩ := gd_r h
  refine k_new E hW (T := TX3) (ty := tyX3) g62 rfl in_X3 tyX3_ok rfl df_X3 kw_78 kw_33 kw_2 ⟨(Nat.le_of_ble_eq_true rfl), (Nat.le_of_ble_eq_true rfl)⟩ dX1_init_26 (fun x63 H ex63 hW => ?_)
  have h := bnd_r ex63 h
  refine lv_dup E.1 E.2.1 dX1_init_29 rfl ?_
  obtain ⟨x64, cx64, h⟩ := obk_r h
  obtain ⟨g65, h⟩ := gd_r h
  refine k_I (rest := [.ref (G.2.2.2 + x58.1), .int (4 : Int32), .ref (G.2.2.2 + (rC q0 0))]) E hAO hW (m_X3_init cx64) g65 kw_80 wi_X3_init yo_X3_init ⟨rfl, rfl⟩ ⟨(Nat.le_of_ble_eq_true rfl), (Nat.le_of_ble_eq_true rfl)⟩ (lv_size hl) (Nat.le_of_ble_eq_true rfl) ⟨(Nat.le_of_ble_eq_true rfl), (Nat.le_of_ble_eq_true rfl)⟩ dX1_init_30 (fun H locs hW => ?_)
  obtain ⟨g66, h⟩ := gd_r h
  obtain ⟨g67, h⟩ := gd_r h
  obtain ⟨g68, h⟩ := gd_r h
  obtain ⟨g69, h⟩ := gd_r h
  obtain ⟨g70, h⟩ := gd_r h
  refine k_aast (t := 1) E hW (pr_eq g66.1) g67 g66.2 g68 g69 g70 rfl rfl dX1_init_33 (fun x71 H locs ex71 hW => ?_)
  have h := bnd_r ex71 h
  refine lv_iinc (v := (5 : Int32)) (lv' := [(1, .int (5 : Int32)), (0, .ref (G.2.2.2 + q0))]) E.1 E.2.1 dX1_init_34 hl (k := 0) rfl (by decide) (by decide) rfl (fun ls hl => ?_)
  refine lv_goto (tgt := 15) E.1 E.2.1 dX1_init_37 (by decide) ?_
  refine lv_iload_n E.1 E.2.1 dX1_init_15 rfl (lv_at hl 0 rfl) ?_
  refine lv_bipush (v := (8 : Int32)) E.1 E.2.1 dX1_init_16 (by decide) ?_
  refine lv_icmp_ge (tgt := 40) E.1 E.2.1 dX1_init_18 (by decide) (fun g => absurd g (by decide)) (fun g => ?_)
  refine lv_aload_n E.1 E.2.1 dX1_init_21 rfl (lv_at hl 1 rfl) ?_
  obtain ⟨g72, h⟩ := gd_r h
  obtain ⟨g73, h⟩ := gd_r h
  obtain ⟨g74, h⟩ := gd_r h
  refine k_get E hW (k := 0) (T := TX1) (n := 3) g72 g73 g74 rfl in_X1 (by decide) rfl rfl ⟨rfl, rfl, rfl⟩ kw_81 dX1_init_22 ?_
  refine lv_iload_n E.1 E.2.1 dX1_init_25 rfl (lv_at hl 0 rfl) ?_
  obtain ⟨g75, h⟩ := gd_r h
  refine k_new E hW (T := TX3) (ty := tyX3) g75 rfl in_X3 tyX3_ok rfl df_X3 kw_78 kw_33 kw_2 ⟨(Nat.le_of_ble_eq_true rfl), (Nat.le_of_ble_eq_true rfl)⟩ dX1_init_26 (fun x76 H ex76 hW => ?_)
  have h := bnd_r ex76 h
  refine lv_dup E.1 E.2.1 dX1_init_29 rfl ?_
  obtain ⟨x77, cx77, h⟩ := obk_r h
  obtain ⟨g78, h⟩ := gd_r h
  refine k_I (rest := [.ref (G.2.2.2 + x71.1), .int (5 : Int32), .ref (G.2.2.2 + (rC q0 0))]) E hAO hW (m_X3_init cx77) g78 kw_80 wi_X3_init yo_X3_init ⟨rfl, rfl⟩ ⟨(Nat.le_of_ble_eq_true rfl), (Nat.le_of_ble_eq_true rfl)⟩ (lv_size hl) (Nat.le_of_ble_eq_true rfl) ⟨(Nat.le_of_ble_eq_true rfl), (Nat.le_of_ble_eq_true rfl)⟩ dX1_init_30 (fun H locs hW => ?_)
  obtain ⟨g79, h⟩ := gd_r h
  obtain ⟨g80, h⟩ := gd_r h
  obtain ⟨g81, h⟩ := gd_r h
  obtain ⟨g82, h⟩ := gd_r h
  obtain ⟨g83, h⟩ := gd_r h
  refine k_aast (t := 1) E hW (pr_eq g79.1) g80 g79.2 g81 g82 g83 rfl rfl dX1_init_33 (fun x84 H locs ex84 hW => ?_)
  have h := bnd_r ex84 h
  refine lv_iinc (v := (6 : Int32)) (lv' := [(1, .int (6 : Int32)), (0, .ref (G.2.2.2 + q0))]) E.1 E.2.1 dX1_init_34 hl (k := 0) rfl (by decide) (by decide) rfl (fun ls hl => ?_)
  refine lv_goto (tgt := 15) E.1 E.2.1 dX1_init_37 (by decide) ?_
  refine lv_iload_n E.1 E.2.1 dX1_init_15 rfl (lv_at hl 0 rfl) ?_
  refine lv_bipush (v := (8 : Int32)) E.1 E.2.1 dX1_init_16 (by decide) ?_
  refine lv_icmp_ge (tgt := 40) E.1 E.2.1 dX1_init_18 (by decide) (fun g => absurd g (by decide)) (fun g => ?_)
  refine lv_aload_n E.1 E.2.1 dX1_init_21 rfl (lv_at hl 1 rfl) ?_
  obtain ⟨g85, h⟩ := gd_r h
  obtain ⟨g86, h⟩ := gd_r h
  obtain ⟨g87, h⟩ := gd_r h
  refine k_get E hW (k := 0) (T := TX1) (n := 3) g85 g86 g87 rfl in_X1 (by decide) rfl rfl ⟨rfl, rfl, rfl⟩ kw_81 dX1_init_22 ?_
  refine lv_iload_n E.1 E.2.1 dX1_init_25 rfl (lv_at hl 0 rfl) ?_
  obtain ⟨g88, h⟩ := gd_r h
  refine k_new E hW (T := TX3) (ty := tyX3) g88 rfl in_X3 tyX3_ok rfl df_X3 kw_78 kw_33 kw_2 ⟨(Nat.le_of_ble_eq_true rfl), (Nat.le_of_ble_eq_true rfl)⟩ dX1_init_26 (fun x89 H ex89 hW => ?_)
  have h := bnd_r ex89 h
  refine lv_dup E.1 E.2.1 dX1_init_29 rfl ?_
  obtain ⟨x90, cx90, h⟩ := obk_r h
  obtain ⟨g91, h⟩ := gd_r h
  refine k_I (rest := [.ref (G.2.2.2 + x84.1), .int (6 : Int32), .ref (G.2.2.2 + (rC q0 0))]) E hAO hW (m_X3_init cx90) g91 kw_80 wi_X3_init yo_X3_init ⟨rfl, rfl⟩ ⟨(Nat.le_of_ble_eq_true rfl), (Nat.le_of_ble_eq_true rfl)⟩ (lv_size hl) (Nat.le_of_ble_eq_true rfl) ⟨(Nat.le_of_ble_eq_true rfl), (Nat.le_of_ble_eq_true rfl)⟩ dX1_init_30 (fun H locs hW => ?_)
  obtain ⟨g92, h⟩ := gd_r h
  obtain ⟨g93, h⟩ := gd_r h
  obtain ⟨g94, h⟩ := gd_r h
  obtain ⟨g95, h⟩ := gd_r h
  obtain ⟨g96, h⟩ := gd_r h
  refine k_aast (t := 1) E hW (pr_eq g92.1) g93 g92.2 g94 g95 g96 rfl rfl dX1_init_33 (fun x97 H locs ex97 hW => ?_)
  have h := bnd_r ex97 h
  refine lv_iinc (v := (7 : Int32)) (lv' := [(1, .int (7 : Int32)), (0, .ref (G.2.2.2 + q0))]) E.1 E.2.1 dX1_init_34 hl (k := 0) rfl (by decide) (by decide) rfl (fun ls hl => ?_)
  refine lv_goto (tgt := 15) E.1 E.2.1 dX1_init_37 (by decide) ?_
  refine lv_iload_n E.1 E.2.1 dX1_init_15 rfl (lv_at hl 0 rfl) ?_
  refine lv_bipush (v := (8 : Int32)) E.1 E.2.1 dX1_init_16 (by decide) ?_
  refine lv_icmp_ge (tgt := 40) E.1 E.2.1 dX1_init_18 (by decide) (fun g => absurd g (by decide)) (fun g => ?_)
  refine lv_aload_n E.1 E.2.1 dX1_init_21 rfl (lv_at hl 1 rfl) ?_
  obtain ⟨g98, h⟩ := gd_r h
  obtain ⟨g99, h⟩ := gd_r h
  obtain ⟨g100, h⟩ := gd_r h
  refine k_get E hW (k := 0) (T := TX1) (n := 3) g98 g99 g100 rfl in_X1 (by decide) rfl rfl ⟨rfl, rfl, rfl⟩ kw_81 dX1_init_22 ?_
  refine lv_iload_n E.1 E.2.1 dX1_init_25 rfl (lv_at hl 0 rfl) ?_
  obtain ⟨g101, h⟩ := gd_r h
  refine k_new E hW (T := TX3) (ty := tyX3) g101 rfl in_X3 tyX3_ok rfl df_X3 kw_78 kw_33 kw_2 ⟨(Nat.le_of_ble_eq_true rfl), (Nat.le_of_ble_eq_true rfl)⟩ dX1_init_26 (fun x102 H ex102 hW => ?_)
  have h := bnd_r ex102 h
  refine lv_dup E.1 E.2.1 dX1_init_29 rfl ?_
  obtain ⟨x103, cx103, h⟩ := obk_r h
  obtain ⟨g104, h⟩ := gd_r h
  refine k_I (rest := [.ref (G.2.2.2 + x97.1), .int (7 : Int32), .ref (G.2.2.2 + (rC q0 0))]) E hAO hW (m_X3_init cx103) g104 kw_80 wi_X3_init yo_X3_init ⟨rfl, rfl⟩ ⟨(Nat.le_of_ble_eq_true rfl), (Nat.le_of_ble_eq_true rfl)⟩ (lv_size hl) (Nat.le_of_ble_eq_true rfl) ⟨(Nat.le_of_ble_eq_true rfl), (Nat.le_of_ble_eq_true rfl)⟩ dX1_init_30 (fun H locs hW => ?_)
  obtain ⟨g105, h⟩ := gd_r h
  obtain ⟨g106, h⟩ := gd_r h
  obtain ⟨g107, h⟩ := gd_r h
  obtain ⟨g108, h⟩ := gd_r h
  obtain ⟨g109, h⟩ := gd_r h
  refine k_aast (t := 1) E hW (pr_eq g105.1) g106 g105.2 g107 g108 g109 rfl rfl dX1_init_33 (fun x110 H locs ex110 hW => ?_)
  have h := bnd_r ex110 h
  refine lv_iinc (v := (8 : Int32)) (lv' := [(1, .int (8 : Int32)), (0, .ref (G.2.2.2 + q0))]) E.1 E.2.1 dX1_init_34 hl (k := 0) rfl (by decide) (by decide) rfl (fun ls hl => ?_)
  refine lv_goto (tgt := 15) E.1 E.2.1 dX1_init_37 (by decide) ?_
  refine lv_iload_n E.1 E.2.1 dX1_init_15 rfl (lv_at hl 0 rfl) ?_
  refine lv_bipush (v := (8 : Int32)) E.1 E.2.1 dX1_init_16 (by decide) ?_
  refine lv_icmp_ge (tgt := 40) E.1 E.2.1 dX1_init_18 (by decide) (fun g => ?_) (fun g => absurd (by decide) g)
  exact k_ret E hW hr hlk h (Nat.le_of_ble_eq_true rfl) (Nat.le_of_ble_eq_true rfl) dX1_init_40
set_option maxHeartbeats 4000000 in
set_option maxRecDepth 100000 in
theorem m_X0_init {l : Launch} {G : GP} {sz q0 : Nat} {x x0 : Sg} (h : f_X0_init q0 x = some x0) : Met l yX0_init [.code yX0_init cX0_init 1 none] ({ frames := 2, cells := 11, slots := 114, locals := 44 } : Room) (va_Pc [Value.ref (G.2.2.2 + q0)] (PreK G skC sz x)) (QO (PoK G skC x0) (Aw G.2.2.2 skC.1 sz) none) 11 114 (Aw G.2.2.2 skC.1 sz) := by
  refine mkMetK (by decide +kernel) (Nat.le_of_ble_eq_true rfl) skC_ok ?_
  intro p e s m below meth c ls E hAO hW hl hr hlk hin0
  have hl : lv_has ls 1 [(0, .ref (G.2.2.2 + q0))] := hl
  generalize Aw G.2.2.2 skC.1 s.heap.size = A0 at E hW ⊢
  generalize ([Value.ref (G.2.2.2 + q0)] : List Value).toArray = args
  unfold f_X0_init at h
  refine lv_aload_n E.1 E.2.1 dX0_init_0 rfl (lv_at hl 0 rfl) ?_
  refine k_obj E (lv_size hl) kw_97 kw_30 kw_31 ⟨(Nat.le_of_ble_eq_true rfl), (Nat.le_of_ble_eq_true rfl)⟩ dX0_init_1 ?_
  refine lv_aload_n E.1 E.2.1 dX0_init_4 rfl (lv_at hl 0 rfl) ?_
  refine lv_bipush (v := (49 : Int32)) E.1 E.2.1 dX0_init_5 (by decide) ?_
  obtain ⟨g1, h⟩ := gd_r h
  refine k_newJ E hW g1 (by decide) rfl (Nat.le_of_ble_eq_true rfl) ⟨(Nat.le_of_ble_eq_true rfl), (Nat.le_of_ble_eq_true rfl)⟩ dX0_init_7 (fun x2 H ex2 hW => ?_)
  have h := bnd_r ex2 h
  obtain ⟨g3, h⟩ := gd_r h
  obtain ⟨g4, h⟩ := gd_r h
  obtain ⟨g5, h⟩ := gd_r h
  refine k_putF E hW (k := 0) (T := TX0) (n := 8) (ty := tyX0 0) hin0 g3 g4 g5 rfl in_X0 (by decide) rfl rfl tyX0_ok nmX0 ⟨rfl, rfl, rfl, rfl⟩ rfl (by decide +kernel) ⟨fun _ => rfl, fun _ => rfl⟩ kw_100 dX0_init_9 (fun x6 H locs ex6 hW => ?_)
  have h := bnd_r ex6 h
  refine lv_aload_n E.1 E.2.1 dX0_init_12 rfl (lv_at hl 0 rfl) ?_
  obtain ⟨g7, h⟩ := gd_r h
  refine k_new E hW (T := TX2) (ty := tyX2) g7 rfl in_X2 tyX2_ok rfl df_X2 kw_98 kw_40 kw_3 ⟨(Nat.le_of_ble_eq_true rfl), (Nat.le_of_ble_eq_true rfl)⟩ dX0_init_13 (fun x8 H ex8 hW => ?_)
  have h := bnd_r ex8 h
  refine lv_dup E.1 E.2.1 dX0_init_16 rfl ?_
  obtain ⟨x9, cx9, h⟩ := obk_r h
  obtain ⟨g10, h⟩ := gd_r h
  refine k_IN (rest := [.ref (G.2.2.2 + x6.1), .ref (G.2.2.2 + q0)]) E hAO hW (m_X2_init cx9) g10 kw_99 wi_X2_init yo_X2_init ⟨rfl, rfl⟩ ⟨(Nat.le_of_ble_eq_true rfl), (Nat.le_of_ble_eq_true rfl)⟩ (lv_size hl) (Nat.le_of_ble_eq_true rfl) ⟨(Nat.le_of_ble_eq_true rfl), (Nat.le_of_ble_eq_true rfl)⟩ dX0_init_17 (fun H locs hW => ?_)
  obtain ⟨g11, h⟩ := gd_r h
  obtain ⟨g12, h⟩ := gd_r h
  obtain ⟨g13, h⟩ := gd_r h
  refine k_putF E hW (k := 3) (T := TX0) (n := 8) (ty := tyX0 3) hin0 g11 g12 g13 rfl in_X0 (by decide) rfl rfl tyX0_ok nmX0 ⟨rfl, rfl, rfl, rfl⟩ rfl (by decide +kernel) ⟨fun _ => rfl, fun _ => rfl⟩ kw_103 dX0_init_20 (fun x14 H locs ex14 hW => ?_)
  have h := bnd_r ex14 h
  refine lv_aload_n E.1 E.2.1 dX0_init_23 rfl (lv_at hl 0 rfl) ?_
  obtain ⟨g15, h⟩ := gd_r h
  refine k_new E hW (T := TX2) (ty := tyX2) g15 rfl in_X2 tyX2_ok rfl df_X2 kw_98 kw_40 kw_3 ⟨(Nat.le_of_ble_eq_true rfl), (Nat.le_of_ble_eq_true rfl)⟩ dX0_init_24 (fun x16 H ex16 hW => ?_)
  have h := bnd_r ex16 h
  refine lv_dup E.1 E.2.1 dX0_init_27 rfl ?_
  obtain ⟨x17, cx17, h⟩ := obk_r h
  obtain ⟨g18, h⟩ := gd_r h
  refine k_IN (rest := [.ref (G.2.2.2 + x14.1), .ref (G.2.2.2 + q0)]) E hAO hW (m_X2_init cx17) g18 kw_99 wi_X2_init yo_X2_init ⟨rfl, rfl⟩ ⟨(Nat.le_of_ble_eq_true rfl), (Nat.le_of_ble_eq_true rfl)⟩ (lv_size hl) (Nat.le_of_ble_eq_true rfl) ⟨(Nat.le_of_ble_eq_true rfl), (Nat.le_of_ble_eq_true rfl)⟩ dX0_init_28 (fun H locs hW => ?_)
  obtain ⟨g19, h⟩ := gd_r h
  obtain ⟨g20, h⟩ := gd_r h
  obtain ⟨g21, h⟩ := gd_r h
  refine k_putF E hW (k := 4) (T := TX0) (n := 8) (ty := tyX0 4) hin0 g19 g20 g21 rfl in_X0 (by decide) rfl rfl tyX0_ok nmX0 ⟨rfl, rfl, rfl, rfl⟩ rfl (by decide +kernel) ⟨fun _ => rfl, fun _ => rfl⟩ kw_104 dX0_init_31 (fun x22 H locs ex22 hW => ?_)
  have h := bnd_r ex22 h
  refine lv_aload_n E.1 E.2.1 dX0_init_34 rfl (lv_at hl 0 rfl) ?_
  obtain ⟨g23, h⟩ := gd_r h
  refine k_new E hW (T := TX2) (ty := tyX2) g23 rfl in_X2 tyX2_ok rfl df_X2 kw_98 kw_40 kw_3 ⟨(Nat.le_of_ble_eq_true rfl), (Nat.le_of_ble_eq_true rfl)⟩ dX0_init_35 (fun x24 H ex24 hW => ?_)
  have h := bnd_r ex24 h
  refine lv_dup E.1 E.2.1 dX0_init_38 rfl ?_
  obtain ⟨x25, cx25, h⟩ := obk_r h
  obtain ⟨g26, h⟩ := gd_r h
  refine k_IN (rest := [.ref (G.2.2.2 + x22.1), .ref (G.2.2.2 + q0)]) E hAO hW (m_X2_init cx25) g26 kw_99 wi_X2_init yo_X2_init ⟨rfl, rfl⟩ ⟨(Nat.le_of_ble_eq_true rfl), (Nat.le_of_ble_eq_true rfl)⟩ (lv_size hl) (Nat.le_of_ble_eq_true rfl) ⟨(Nat.le_of_ble_eq_true rfl), (Nat.le_of_ble_eq_true rfl)⟩ dX0_init_39 (fun H locs hW => ?_)
  obtain ⟨g27, h⟩ := gd_r h
  obtain ⟨g28, h⟩ := gd_r h
  obtain ⟨g29, h⟩ := gd_r h
  refine k_putF E hW (k := 5) (T := TX0) (n := 8) (ty := tyX0 5) hin0 g27 g28 g29 rfl in_X0 (by decide) rfl rfl tyX0_ok nmX0 ⟨rfl, rfl, rfl, rfl⟩ rfl (by decide +kernel) ⟨fun _ => rfl, fun _ => rfl⟩ kw_105 dX0_init_42 (fun x30 H locs ex30 hW => ?_)
  have h := bnd_r ex30 h
  refine lv_aload_n E.1 E.2.1 dX0_init_45 rfl (lv_at hl 0 rfl) ?_
  obtain ⟨g31, h⟩ := gd_r h
  refine k_new E hW (T := TX2) (ty := tyX2) g31 rfl in_X2 tyX2_ok rfl df_X2 kw_98 kw_40 kw_3 ⟨(Nat.le_of_ble_eq_true rfl), (Nat.le_of_ble_eq_true rfl)⟩ dX0_init_46 (fun x32 H ex32 hW => ?_)
  have h := bnd_r ex32 h
  refine lv_dup E.1 E.2.1 dX0_init_49 rfl ?_
  obtain ⟨x33, cx33, h⟩ := obk_r h
  obtain ⟨g34, h⟩ := gd_r h
  refine k_IN (rest := [.ref (G.2.2.2 + x30.1), .ref (G.2.2.2 + q0)]) E hAO hW (m_X2_init cx33) g34 kw_99 wi_X2_init yo_X2_init ⟨rfl, rfl⟩ ⟨(Nat.le_of_ble_eq_true rfl), (Nat.le_of_ble_eq_true rfl)⟩ (lv_size hl) (Nat.le_of_ble_eq_true rfl) ⟨(Nat.le_of_ble_eq_true rfl), (Nat.le_of_ble_eq_true rfl)⟩ dX0_init_50 (fun H locs hW => ?_)
  obtain ⟨g35, h⟩ := gd_r h
  obtain ⟨g36, h⟩ := gd_r h
  obtain ⟨g37, h⟩ := gd_r h
  refine k_putF E hW (k := 6) (T := TX0) (n := 8) (ty := tyX0 6) hin0 g35 g36 g37 rfl in_X0 (by decide) rfl rfl tyX0_ok nmX0 ⟨rfl, rfl, rfl, rfl⟩ rfl (by decide +kernel) ⟨fun _ => rfl, fun _ => rfl⟩ kw_106 dX0_init_53 (fun x38 H locs ex38 hW => ?_)
  have h := bnd_r ex38 h
  refine lv_aload_n E.1 E.2.1 dX0_init_56 rfl (lv_at hl 0 rfl) ?_
  obtain ⟨g39, h⟩ := gd_r h
  refine k_new E hW (T := TX2) (ty := tyX2) g39 rfl in_X2 tyX2_ok rfl df_X2 kw_98 kw_40 kw_3 ⟨(Nat.le_of_ble_eq_true rfl), (Nat.le_of_ble_eq_true rfl)⟩ dX0_init_57 (fun x40 H ex40 hW => ?_)
  have h := bnd_r ex40 h
  refine lv_dup E.1 E.2.1 dX0_init_60 rfl ?_
  obtain ⟨x41, cx41, h⟩ := obk_r h
  obtain ⟨g42, h⟩ := gd_r h
  refine k_IN (rest := [.ref (G.2.2.2 + x38.1), .ref (G.2.2.2 + q0)]) E hAO hW (m_X2_init cx41) g42 kw_99 wi_X2_init yo_X2_init ⟨rfl, rfl⟩ ⟨(Nat.le_of_ble_eq_true rfl), (Nat.le_of_ble_eq_true rfl)⟩ (lv_size hl) (Nat.le_of_ble_eq_true rfl) ⟨(Nat.le_of_ble_eq_true rfl), (Nat.le_of_ble_eq_true rfl)⟩ dX0_init_61 (fun H locs hW => ?_)
  obtain ⟨g43, h⟩ := gd_r h
  obtain ⟨g44, h⟩ := gd_r h
  obtain ⟨g45, h⟩ := gd_r h
  refine k_putF E hW (k := 7) (T := TX0) (n := 8) (ty := tyX0 7) hin0 g43 g44 g45 rfl in_X0 (by decide) rfl rfl tyX0_ok nmX0 ⟨rfl, rfl, rfl, rfl⟩ rfl (by decide +kernel) ⟨fun _ => rfl, fun _ => rfl⟩ kw_107 dX0_init_64 (fun x46 H locs ex46 hW => ?_)
  have h := bnd_r ex46 h
  exact k_ret E hW hr hlk h (Nat.le_of_ble_eq_true rfl) (Nat.le_of_ble_eq_true rfl) dX0_init_67
set_option maxHeartbeats 4000000 in
set_option maxRecDepth 100000 in
theorem m_X5_init {l : Launch} {G : GP} {sz q0 : Nat} {x x0 : Sg} (h : f_X5_init q0 x = some x0) : Met l yX5_init [.code yX5_init cX5_init 1 none] ({ frames := 1, cells := 3, slots := 2102, locals := 24 } : Room) (va_Pc [Value.ref (G.2.2.2 + q0)] (PreK G skC sz x)) (QO (PoK G skC x0) (Aw G.2.2.2 skC.1 sz) none) 3 2102 (Aw G.2.2.2 skC.1 sz) := by
  refine mkMetK (by decide +kernel) (Nat.le_of_ble_eq_true rfl) skC_ok ?_
  intro p e s m below meth c ls E hAO hW hl hr hlk hin0
  have hl : lv_has ls 1 [(0, .ref (G.2.2.2 + q0))] := hl
  generalize Aw G.2.2.2 skC.1 s.heap.size = A0 at E hW ⊢
  generalize ([Value.ref (G.2.2.2 + q0)] : List Value).toArray = args
  unfold f_X5_init at h
  refine lv_aload_n E.1 E.2.1 dX5_init_0 rfl (lv_at hl 0 rfl) ?_
  refine k_obj E (lv_size hl) kw_136 kw_30 kw_31 ⟨(Nat.le_of_ble_eq_true rfl), (Nat.le_of_ble_eq_true rfl)⟩ dX5_init_1 ?_
  refine lv_aload_n E.1 E.2.1 dX5_init_4 rfl (lv_at hl 0 rfl) ?_
  refine lv_sipush (v := (700 : Int32)) E.1 E.2.1 dX5_init_5 (by decide) ?_
  obtain ⟨g1, h⟩ := gd_r h
  refine k_newI E hW g1 (by decide) rfl (Nat.le_of_ble_eq_true rfl) ⟨(Nat.le_of_ble_eq_true rfl), (Nat.le_of_ble_eq_true rfl)⟩ dX5_init_8 (fun x2 H ex2 hW => ?_)
  have h := bnd_r ex2 h
  obtain ⟨g3, h⟩ := gd_r h
  obtain ⟨g4, h⟩ := gd_r h
  obtain ⟨g5, h⟩ := gd_r h
  refine k_putF E hW (k := 0) (T := TX5) (n := 9) (ty := tyX5 0) hin0 g3 g4 g5 rfl in_X5 (by decide) rfl rfl tyX5_ok nmX5 ⟨rfl, rfl, rfl, rfl⟩ rfl (by decide +kernel) ⟨fun _ => rfl, fun _ => rfl⟩ kw_137 dX5_init_10 (fun x6 H locs ex6 hW => ?_)
  have h := bnd_r ex6 h
  refine lv_aload_n E.1 E.2.1 dX5_init_13 rfl (lv_at hl 0 rfl) ?_
  refine lv_sipush (v := (701 : Int32)) E.1 E.2.1 dX5_init_14 (by decide) ?_
  obtain ⟨g7, h⟩ := gd_r h
  refine k_newI E hW g7 (by decide) rfl (Nat.le_of_ble_eq_true rfl) ⟨(Nat.le_of_ble_eq_true rfl), (Nat.le_of_ble_eq_true rfl)⟩ dX5_init_17 (fun x8 H ex8 hW => ?_)
  have h := bnd_r ex8 h
  obtain ⟨g9, h⟩ := gd_r h
  obtain ⟨g10, h⟩ := gd_r h
  obtain ⟨g11, h⟩ := gd_r h
  refine k_putF E hW (k := 2) (T := TX5) (n := 9) (ty := tyX5 2) hin0 g9 g10 g11 rfl in_X5 (by decide) rfl rfl tyX5_ok nmX5 ⟨rfl, rfl, rfl, rfl⟩ rfl (by decide +kernel) ⟨fun _ => rfl, fun _ => rfl⟩ kw_140 dX5_init_19 (fun x12 H locs ex12 hW => ?_)
  have h := bnd_r ex12 h
  refine lv_aload_n E.1 E.2.1 dX5_init_22 rfl (lv_at hl 0 rfl) ?_
  refine lv_sipush (v := (701 : Int32)) E.1 E.2.1 dX5_init_23 (by decide) ?_
  obtain ⟨g13, h⟩ := gd_r h
  refine k_newI E hW g13 (by decide) rfl (Nat.le_of_ble_eq_true rfl) ⟨(Nat.le_of_ble_eq_true rfl), (Nat.le_of_ble_eq_true rfl)⟩ dX5_init_26 (fun x14 H ex14 hW => ?_)
  have h := bnd_r ex14 h
  obtain ⟨g15, h⟩ := gd_r h
  obtain ⟨g16, h⟩ := gd_r h
  obtain ⟨g17, h⟩ := gd_r h
  refine k_putF E hW (k := 3) (T := TX5) (n := 9) (ty := tyX5 3) hin0 g15 g16 g17 rfl in_X5 (by decide) rfl rfl tyX5_ok nmX5 ⟨rfl, rfl, rfl, rfl⟩ rfl (by decide +kernel) ⟨fun _ => rfl, fun _ => rfl⟩ kw_141 dX5_init_28 (fun x18 H locs ex18 hW => ?_)
  have h := bnd_r ex18 h
  exact k_ret E hW hr hlk h (Nat.le_of_ble_eq_true rfl) (Nat.le_of_ble_eq_true rfl) dX5_init_31
set_option maxHeartbeats 4000000 in
set_option maxRecDepth 100000 in
theorem m_X4_init {l : Launch} {G : GP} {sz q0 : Nat} {x x0 : Sg} (h : f_X4_init q0 x = some x0) : Met l yX4_init [.code yX4_init cX4_init 2 none] ({ frames := 3, cells := 78, slots := 2627, locals := 65 } : Room) (va_Pc [Value.ref (G.2.2.2 + q0)] (PreK G skC sz x)) (QO (PoK G skC x0) (Aw G.2.2.2 skC.1 sz) none) 78 2627 (Aw G.2.2.2 skC.1 sz) := by
  refine mkMetK (by decide +kernel) (Nat.le_of_ble_eq_true rfl) skC_ok ?_
  intro p e s m below meth c ls E hAO hW hl hr hlk hin0
  have hl : lv_has ls 2 [(0, .ref (G.2.2.2 + q0))] := hl
  generalize Aw G.2.2.2 skC.1 s.heap.size = A0 at E hW ⊢
  generalize ([Value.ref (G.2.2.2 + q0)] : List Value).toArray = args
  unfold f_X4_init at h
  refine lv_aload_n E.1 E.2.1 dX4_init_0 rfl (lv_at hl 0 rfl) ?_
  refine k_obj E (lv_size hl) kw_130 kw_30 kw_31 ⟨(Nat.le_of_ble_eq_true rfl), (Nat.le_of_ble_eq_true rfl)⟩ dX4_init_1 ?_
  refine lv_aload_n E.1 E.2.1 dX4_init_4 rfl (lv_at hl 0 rfl) ?_
  obtain ⟨g1, h⟩ := gd_r h
  refine k_new E hW (T := TX5) (ty := tyX5) g1 rfl in_X5 tyX5_ok rfl df_X5 kw_131 kw_132 kw_7 ⟨(Nat.le_of_ble_eq_true rfl), (Nat.le_of_ble_eq_true rfl)⟩ dX4_init_5 (fun x2 H ex2 hW => ?_)
  have h := bnd_r ex2 h
  refine lv_dup E.1 E.2.1 dX4_init_8 rfl ?_
  obtain ⟨x3, cx3, h⟩ := obk_r h
  obtain ⟨g4, h⟩ := gd_r h
  refine k_IN (rest := [.ref (G.2.2.2 + x.1), .ref (G.2.2.2 + q0)]) E hAO hW (m_X5_init cx3) g4 kw_133 wi_X5_init yo_X5_init ⟨rfl, rfl⟩ ⟨(Nat.le_of_ble_eq_true rfl), (Nat.le_of_ble_eq_true rfl)⟩ (lv_size hl) (Nat.le_of_ble_eq_true rfl) ⟨(Nat.le_of_ble_eq_true rfl), (Nat.le_of_ble_eq_true rfl)⟩ dX4_init_9 (fun H locs hW => ?_)
  obtain ⟨g5, h⟩ := gd_r h
  obtain ⟨g6, h⟩ := gd_r h
  obtain ⟨g7, h⟩ := gd_r h
  refine k_putF E hW (k := 0) (T := TX4) (n := 8) (ty := tyX4 0) hin0 g5 g6 g7 rfl in_X4 (by decide) rfl rfl tyX4_ok nmX4 ⟨rfl, rfl, rfl, rfl⟩ rfl (by decide +kernel) ⟨fun _ => rfl, fun _ => rfl⟩ kw_175 dX4_init_12 (fun x8 H locs ex8 hW => ?_)
  have h := bnd_r ex8 h
  refine lv_aload_n E.1 E.2.1 dX4_init_15 rfl (lv_at hl 0 rfl) ?_
  obtain ⟨g9, h⟩ := gd_r h
  refine k_new E hW (T := TX3) (ty := tyX3) g9 rfl in_X3 tyX3_ok rfl df_X3 kw_169 kw_33 kw_2 ⟨(Nat.le_of_ble_eq_true rfl), (Nat.le_of_ble_eq_true rfl)⟩ dX4_init_16 (fun x10 H ex10 hW => ?_)
  have h := bnd_r ex10 h
  refine lv_dup E.1 E.2.1 dX4_init_19 rfl ?_
  obtain ⟨x11, cx11, h⟩ := obk_r h
  obtain ⟨g12, h⟩ := gd_r h
  refine k_I (rest := [.ref (G.2.2.2 + x8.1), .ref (G.2.2.2 + q0)]) E hAO hW (m_X3_init cx11) g12 kw_170 wi_X3_init yo_X3_init ⟨rfl, rfl⟩ ⟨(Nat.le_of_ble_eq_true rfl), (Nat.le_of_ble_eq_true rfl)⟩ (lv_size hl) (Nat.le_of_ble_eq_true rfl) ⟨(Nat.le_of_ble_eq_true rfl), (Nat.le_of_ble_eq_true rfl)⟩ dX4_init_20 (fun H locs hW => ?_)
  obtain ⟨g13, h⟩ := gd_r h
  obtain ⟨g14, h⟩ := gd_r h
  obtain ⟨g15, h⟩ := gd_r h
  refine k_putF E hW (k := 1) (T := TX4) (n := 8) (ty := tyX4 1) hin0 g13 g14 g15 rfl in_X4 (by decide) rfl rfl tyX4_ok nmX4 ⟨rfl, rfl, rfl, rfl⟩ rfl (by decide +kernel) ⟨fun _ => rfl, fun _ => rfl⟩ kw_177 dX4_init_23 (fun x16 H locs ex16 hW => ?_)
  have h := bnd_r ex16 h
  refine lv_aload_n E.1 E.2.1 dX4_init_26 rfl (lv_at hl 0 rfl) ?_
  obtain ⟨g17, h⟩ := gd_r h
  refine k_new E hW (T := TX0) (ty := tyX0) g17 rfl in_X0 tyX0_ok rfl df_X0 kw_171 kw_93 kw_5 ⟨(Nat.le_of_ble_eq_true rfl), (Nat.le_of_ble_eq_true rfl)⟩ dX4_init_27 (fun x18 H ex18 hW => ?_)
  have h := bnd_r ex18 h
  refine lv_dup E.1 E.2.1 dX4_init_30 rfl ?_
  obtain ⟨x19, cx19, h⟩ := obk_r h
  obtain ⟨g20, h⟩ := gd_r h
  refine k_IN (rest := [.ref (G.2.2.2 + x16.1), .ref (G.2.2.2 + q0)]) E hAO hW (m_X0_init cx19) g20 kw_172 wi_X0_init yo_X0_init ⟨rfl, rfl⟩ ⟨(Nat.le_of_ble_eq_true rfl), (Nat.le_of_ble_eq_true rfl)⟩ (lv_size hl) (Nat.le_of_ble_eq_true rfl) ⟨(Nat.le_of_ble_eq_true rfl), (Nat.le_of_ble_eq_true rfl)⟩ dX4_init_31 (fun H locs hW => ?_)
  obtain ⟨g21, h⟩ := gd_r h
  obtain ⟨g22, h⟩ := gd_r h
  obtain ⟨g23, h⟩ := gd_r h
  refine k_putF E hW (k := 2) (T := TX4) (n := 8) (ty := tyX4 2) hin0 g21 g22 g23 rfl in_X4 (by decide) rfl rfl tyX4_ok nmX4 ⟨rfl, rfl, rfl, rfl⟩ rfl (by decide +kernel) ⟨fun _ => rfl, fun _ => rfl⟩ kw_179 dX4_init_34 (fun x24 H locs ex24 hW => ?_)
  have h := bnd_r ex24 h
  refine lv_aload_n E.1 E.2.1 dX4_init_37 rfl (lv_at hl 0 rfl) ?_
  refine lv_iconst (v := (5 : Int32)) E.1 E.2.1 dX4_init_38 (by decide) ?_
  obtain ⟨g25, h⟩ := gd_r h
  refine k_newq (t := 0) E hAO hW g25 (Or.inl ⟨rfl, rfl⟩) kw_173 (by decide) rfl (Nat.le_of_ble_eq_true rfl) ⟨(Nat.le_of_ble_eq_true rfl), (Nat.le_of_ble_eq_true rfl)⟩ dX4_init_39 (fun x26 H ex26 hW => ?_)
  have h := bnd_r ex26 h
  obtain ⟨g27, h⟩ := gd_r h
  obtain ⟨g28, h⟩ := gd_r h
  obtain ⟨g29, h⟩ := gd_r h
  refine k_putF E hW (k := 3) (T := TX4) (n := 8) (ty := tyX4 3) hin0 g27 g28 g29 rfl in_X4 (by decide) rfl rfl tyX4_ok nmX4 ⟨rfl, rfl, rfl, rfl⟩ rfl (by decide +kernel) ⟨fun _ => rfl, fun _ => rfl⟩ kw_180 dX4_init_42 (fun x30 H locs ex30 hW => ?_)
  have h := bnd_r ex30 h
  refine lv_aload_n E.1 E.2.1 dX4_init_45 rfl (lv_at hl 0 rfl) ?_
  refine lv_iconst (v := (5 : Int32)) E.1 E.2.1 dX4_init_46 (by decide) ?_
  obtain ⟨g31, h⟩ := gd_r h
  refine k_newq (t := 0) E hAO hW g31 (Or.inl ⟨rfl, rfl⟩) kw_173 (by decide) rfl (Nat.le_of_ble_eq_true rfl) ⟨(Nat.le_of_ble_eq_true rfl), (Nat.le_of_ble_eq_true rfl)⟩ dX4_init_47 (fun x32 H ex32 hW => ?_)
  have h := bnd_r ex32 h
  obtain ⟨g33, h⟩ := gd_r h
  obtain ⟨g34, h⟩ := gd_r h
  obtain ⟨g35, h⟩ := gd_r h
  refine k_putF E hW (k := 4) (T := TX4) (n := 8) (ty := tyX4 4) hin0 g33 g34 g35 rfl in_X4 (by decide) rfl rfl tyX4_ok nmX4 ⟨rfl, rfl, rfl, rfl⟩ rfl (by decide +kernel) ⟨fun _ => rfl, fun _ => rfl⟩ kw_181 dX4_init_50 (fun x36 H locs ex36 hW => ?_)
  have h := bnd_r ex36 h
  refine lv_aload_n E.1 E.2.1 dX4_init_53 rfl (lv_at hl 0 rfl) ?_
  refine lv_iconst (v := (5 : Int32)) E.1 E.2.1 dX4_init_54 (by decide) ?_
  obtain ⟨g37, h⟩ := gd_r h
  refine k_newq (t := 0) E hAO hW g37 (Or.inl ⟨rfl, rfl⟩) kw_173 (by decide) rfl (Nat.le_of_ble_eq_true rfl) ⟨(Nat.le_of_ble_eq_true rfl), (Nat.le_of_ble_eq_true rfl)⟩ dX4_init_55 (fun x38 H ex38 hW => ?_)
  have h := bnd_r ex38 h
  obtain ⟨g39, h⟩ := gd_r h
  obtain ⟨g40, h⟩ := gd_r h
  obtain ⟨g41, h⟩ := gd_r h
  refine k_putF E hW (k := 5) (T := TX4) (n := 8) (ty := tyX4 5) hin0 g39 g40 g41 rfl in_X4 (by decide) rfl rfl tyX4_ok nmX4 ⟨rfl, rfl, rfl, rfl⟩ rfl (by decide +kernel) ⟨fun _ => rfl, fun _ => rfl⟩ kw_182 dX4_init_58 (fun x42 H locs ex42 hW => ?_)
  have h := bnd_r ex42 h
  refine lv_aload_n E.1 E.2.1 dX4_init_61 rfl (lv_at hl 0 rfl) ?_
  refine lv_iconst (v := (5 : Int32)) E.1 E.2.1 dX4_init_62 (by decide) ?_
  obtain ⟨g43, h⟩ := gd_r h
  refine k_newq (t := 0) E hAO hW g43 (Or.inl ⟨rfl, rfl⟩) kw_173 (by decide) rfl (Nat.le_of_ble_eq_true rfl) ⟨(Nat.le_of_ble_eq_true rfl), (Nat.le_of_ble_eq_true rfl)⟩ dX4_init_63 (fun x44 H ex44 hW => ?_)
  have h := bnd_r ex44 h
  obtain ⟨g45, h⟩ := gd_r h
  obtain ⟨g46, h⟩ := gd_r h
  obtain ⟨g47, h⟩ := gd_r h
  refine k_putF E hW (k := 6) (T := TX4) (n := 8) (ty := tyX4 6) hin0 g45 g46 g47 rfl in_X4 (by decide) rfl rfl tyX4_ok nmX4 ⟨rfl, rfl, rfl, rfl⟩ rfl (by decide +kernel) ⟨fun _ => rfl, fun _ => rfl⟩ kw_183 dX4_init_66 (fun x48 H locs ex48 hW => ?_)
  have h := bnd_r ex48 h
  refine lv_iconst (v := (0 : Int32)) E.1 E.2.1 dX4_init_69 (by decide) ?_
  refine lv_istore_n (lv' := [(1, .int (0 : Int32)), (0, .ref (G.2.2.2 + q0))]) E.1 E.2.1 dX4_init_70 rfl hl (by decide) rfl (fun ls hl => ?_)
  refine lv_iload_n E.1 E.2.1 dX4_init_71 rfl (lv_at hl 0 rfl) ?_
  refine lv_iconst (v := (5 : Int32)) E.1 E.2.1 dX4_init_72 (by decide) ?_
  refine lv_icmp_ge (tgt := 134) E.1 E.2.1 dX4_init_73 (by decide) (fun g => absurd g (by decide)) (fun g => ?_)
  refine lv_aload_n E.1 E.2.1 dX4_init_76 rfl (lv_at hl 1 rfl) ?_
  obtain ⟨g49, h⟩ := gd_r h
  obtain ⟨g50, h⟩ := gd_r h
  obtain ⟨g51, h⟩ := gd_r h
  refine k_get E hW (k := 3) (T := TX4) (n := 8) g49 g50 g51 rfl in_X4 (by decide) rfl rfl ⟨rfl, rfl, rfl⟩ kw_180 dX4_init_77 ?_
  refine lv_iload_n E.1 E.2.1 dX4_init_80 rfl (lv_at hl 0 rfl) ?_
  obtain ⟨g52, h⟩ := gd_r h
  refine k_new E hW (T := TX2) (ty := tyX2) g52 rfl in_X2 tyX2_ok rfl df_X2 kw_173 kw_40 kw_3 ⟨(Nat.le_of_ble_eq_true rfl), (Nat.le_of_ble_eq_true rfl)⟩ dX4_init_81 (fun x53 H ex53 hW => ?_)
  have h := bnd_r ex53 h
  refine lv_dup E.1 E.2.1 dX4_init_84 rfl ?_
  obtain ⟨x54, cx54, h⟩ := obk_r h
  obtain ⟨g55, h⟩ := gd_r h
  refine k_IN (rest := [.ref (G.2.2.2 + x48.1), .int (0 : Int32), .ref (G.2.2.2 + (rC q0 3))]) E hAO hW (m_X2_init cx54) g55 kw_174 wi_X2_init yo_X2_init ⟨rfl, rfl⟩ ⟨(Nat.le_of_ble_eq_true rfl), (Nat.le_of_ble_eq_true rfl)⟩ (lv_size hl) (Nat.le_of_ble_eq_true rfl) ⟨(Nat.le_of_ble_eq_true rfl), (Nat.le_of_ble_eq_true rfl)⟩ dX4_init_85 (fun H locs hW => ?_)
  obtain ⟨g56, h⟩ := gd_r h
  obtain ⟨g57, h⟩ := gd_r h
  obtain ⟨g58, h⟩ := gd_r h
  obtain ⟨g59, h⟩ := gd_r h
  obtain ⟨g60, h⟩ := gd_r h
  refine k_aast (t := 0) E hW (pr_eq g56.1) g57 g56.2 g58 g59 g60 rfl rfl dX4_init_88 (fun x61 H locs ex61 hW => ?_)
  have h := bnd_r ex61 h
  refine lv_aload_n E.1 E.2.1 dX4_init_89 rfl (lv_at hl 1 rfl) ?_
  obtain ⟨g62, h⟩ := gd_r h
  obtain ⟨g63, h⟩ := gd_r h
  obtain ⟨g64, h⟩ := gd_r h
  refine k_get E hW (k := 4) (T := TX4) (n := 8) g62 g63 g64 rfl in_X4 (by decide) rfl rfl ⟨rfl, rfl, rfl⟩ kw_181 dX4_init_90 ?_
  refine lv_iload_n E.1 E.2.1 dX4_init_93 rfl (lv_at hl 0 rfl) ?_
  obtain ⟨g65, h⟩ := gd_r h
  refine k_new E hW (T := TX2) (ty := tyX2) g65 rfl in_X2 tyX2_ok rfl df_X2 kw_173 kw_40 kw_3 ⟨(Nat.le_of_ble_eq_true rfl), (Nat.le_of_ble_eq_true rfl)⟩ dX4_init_94 (fun x66 H ex66 hW => ?_)
  have h := bnd_r ex66 h
  refine lv_dup E.1 E.2.1 dX4_init_97 rfl ?_
  obtain ⟨x67, cx67, h⟩ := obk_r h
  obtain ⟨g68, h⟩ := gd_r h
  refine k_IN (rest := [.ref (G.2.2.2 + x61.1), .int (0 : Int32), .ref (G.2.2.2 + (rC q0 4))]) E hAO hW (m_X2_init cx67) g68 kw_174 wi_X2_init yo_X2_init ⟨rfl, rfl⟩ ⟨(Nat.le_of_ble_eq_true rfl), (Nat.le_of_ble_eq_true rfl)⟩ (lv_size hl) (Nat.le_of_ble_eq_true rfl) ⟨(Nat.le_of_ble_eq_true rfl), (Nat.le_of_ble_eq_true rfl)⟩ dX4_init_98 (fun H locs hW => ?_)
  obtain ⟨g69, h⟩ := gd_r h
  obtain ⟨g70, h⟩ := gd_r h
  obtain ⟨g71, h⟩ := gd_r h
  obtain ⟨g72, h⟩ := gd_r h
  obtain ⟨g73, h⟩ := gd_r h
  refine k_aast (t := 0) E hW (pr_eq g69.1) g70 g69.2 g71 g72 g73 rfl rfl dX4_init_101 (fun x74 H locs ex74 hW => ?_)
  have h := bnd_r ex74 h
  refine lv_aload_n E.1 E.2.1 dX4_init_102 rfl (lv_at hl 1 rfl) ?_
  obtain ⟨g75, h⟩ := gd_r h
  obtain ⟨g76, h⟩ := gd_r h
  obtain ⟨g77, h⟩ := gd_r h
  refine k_get E hW (k := 5) (T := TX4) (n := 8) g75 g76 g77 rfl in_X4 (by decide) rfl rfl ⟨rfl, rfl, rfl⟩ kw_182 dX4_init_103 ?_
  refine lv_iload_n E.1 E.2.1 dX4_init_106 rfl (lv_at hl 0 rfl) ?_
  obtain ⟨g78, h⟩ := gd_r h
  refine k_new E hW (T := TX2) (ty := tyX2) g78 rfl in_X2 tyX2_ok rfl df_X2 kw_173 kw_40 kw_3 ⟨(Nat.le_of_ble_eq_true rfl), (Nat.le_of_ble_eq_true rfl)⟩ dX4_init_107 (fun x79 H ex79 hW => ?_)
  have h := bnd_r ex79 h
  refine lv_dup E.1 E.2.1 dX4_init_110 rfl ?_
  obtain ⟨x80, cx80, h⟩ := obk_r h
  obtain ⟨g81, h⟩ := gd_r h
  refine k_IN (rest := [.ref (G.2.2.2 + x74.1), .int (0 : Int32), .ref (G.2.2.2 + (rC q0 5))]) E hAO hW (m_X2_init cx80) g81 kw_174 wi_X2_init yo_X2_init ⟨rfl, rfl⟩ ⟨(Nat.le_of_ble_eq_true rfl), (Nat.le_of_ble_eq_true rfl)⟩ (lv_size hl) (Nat.le_of_ble_eq_true rfl) ⟨(Nat.le_of_ble_eq_true rfl), (Nat.le_of_ble_eq_true rfl)⟩ dX4_init_111 (fun H locs hW => ?_)
  obtain ⟨g82, h⟩ := gd_r h
  obtain ⟨g83, h⟩ := gd_r h
  obtain ⟨g84, h⟩ := gd_r h
  obtain ⟨g85, h⟩ := gd_r h
  obtain ⟨g86, h⟩ := gd_r h
  refine k_aast (t := 0) E hW (pr_eq g82.1) g83 g82.2 g84 g85 g86 rfl rfl dX4_init_114 (fun x87 H locs ex87 hW => ?_)
  have h := bnd_r ex87 h
  refine lv_aload_n E.1 E.2.1 dX4_init_115 rfl (lv_at hl 1 rfl) ?_
  obtain ⟨g88, h⟩ := gd_r h
  obtain ⟨g89, h⟩ := gd_r h
  obtain ⟨g90, h⟩ := gd_r h
  refine k_get E hW (k := 6) (T := TX4) (n := 8) g88 g89 g90 rfl in_X4 (by decide) rfl rfl ⟨rfl, rfl, rfl⟩ kw_183 dX4_init_116 ?_
  refine lv_iload_n E.1 E.2.1 dX4_init_119 rfl (lv_at hl 0 rfl) ?_
  obtain ⟨g91, h⟩ := gd_r h
  refine k_new E hW (T := TX2) (ty := tyX2) g91 rfl in_X2 tyX2_ok rfl df_X2 kw_173 kw_40 kw_3 ⟨(Nat.le_of_ble_eq_true rfl), (Nat.le_of_ble_eq_true rfl)⟩ dX4_init_120 (fun x92 H ex92 hW => ?_)
  have h := bnd_r ex92 h
  refine lv_dup E.1 E.2.1 dX4_init_123 rfl ?_
  obtain ⟨x93, cx93, h⟩ := obk_r h
  obtain ⟨g94, h⟩ := gd_r h
  refine k_IN (rest := [.ref (G.2.2.2 + x87.1), .int (0 : Int32), .ref (G.2.2.2 + (rC q0 6))]) E hAO hW (m_X2_init cx93) g94 kw_174 wi_X2_init yo_X2_init ⟨rfl, rfl⟩ ⟨(Nat.le_of_ble_eq_true rfl), (Nat.le_of_ble_eq_true rfl)⟩ (lv_size hl) (Nat.le_of_ble_eq_true rfl) ⟨(Nat.le_of_ble_eq_true rfl), (Nat.le_of_ble_eq_true rfl)⟩ dX4_init_124 (fun H locs hW => ?_)
  obtain ⟨g95, h⟩ := gd_r h
  obtain ⟨g96, h⟩ := gd_r h
  obtain ⟨g97, h⟩ := gd_r h
  obtain ⟨g98, h⟩ := gd_r h
  obtain ⟨g99, h⟩ := gd_r h
  refine k_aast (t := 0) E hW (pr_eq g95.1) g96 g95.2 g97 g98 g99 rfl rfl dX4_init_127 (fun x100 H locs ex100 hW => ?_)
  have h := bnd_r ex100 h
  refine lv_iinc (v := (1 : Int32)) (lv' := [(1, .int (1 : Int32)), (0, .ref (G.2.2.2 + q0))]) E.1 E.2.1 dX4_init_128 hl (k := 0) rfl (by decide) (by decide) rfl (fun ls hl => ?_)
  refine lv_goto (tgt := 71) E.1 E.2.1 dX4_init_131 (by decide) ?_
  refine lv_iload_n E.1 E.2.1 dX4_init_71 rfl (lv_at hl 0 rfl) ?_
  refine lv_iconst (v := (5 : Int32)) E.1 E.2.1 dX4_init_72 (by decide) ?_
  refine lv_icmp_ge (tgt := 134) E.1 E.2.1 dX4_init_73 (by decide) (fun g => absurd g (by decide)) (fun g => ?_)
  refine lv_aload_n E.1 E.2.1 dX4_init_76 rfl (lv_at hl 1 rfl) ?_
  obtain ⟨g101, h⟩ := gd_r h
  obtain ⟨g102, h⟩ := gd_r h
  obtain ⟨g103, h⟩ := gd_r h
  refine k_get E hW (k := 3) (T := TX4) (n := 8) g101 g102 g103 rfl in_X4 (by decide) rfl rfl ⟨rfl, rfl, rfl⟩ kw_180 dX4_init_77 ?_
  refine lv_iload_n E.1 E.2.1 dX4_init_80 rfl (lv_at hl 0 rfl) ?_
  obtain ⟨g104, h⟩ := gd_r h
  refine k_new E hW (T := TX2) (ty := tyX2) g104 rfl in_X2 tyX2_ok rfl df_X2 kw_173 kw_40 kw_3 ⟨(Nat.le_of_ble_eq_true rfl), (Nat.le_of_ble_eq_true rfl)⟩ dX4_init_81 (fun x105 H ex105 hW => ?_)
  have h := bnd_r ex105 h
  refine lv_dup E.1 E.2.1 dX4_init_84 rfl ?_
  obtain ⟨x106, cx106, h⟩ := obk_r h
  obtain ⟨g107, h⟩ := gd_r h
  refine k_IN (rest := [.ref (G.2.2.2 + x100.1), .int (1 : Int32), .ref (G.2.2.2 + (rC q0 3))]) E hAO hW (m_X2_init cx106) g107 kw_174 wi_X2_init yo_X2_init ⟨rfl, rfl⟩ ⟨(Nat.le_of_ble_eq_true rfl), (Nat.le_of_ble_eq_true rfl)⟩ (lv_size hl) (Nat.le_of_ble_eq_true rfl) ⟨(Nat.le_of_ble_eq_true rfl), (Nat.le_of_ble_eq_true rfl)⟩ dX4_init_85 (fun H locs hW => ?_)
  obtain ⟨g108, h⟩ := gd_r h
  obtain ⟨g109, h⟩ := gd_r h
  obtain ⟨g110, h⟩ := gd_r h
  obtain ⟨g111, h⟩ := gd_r h
  obtain ⟨g112, h⟩ := gd_r h
  refine k_aast (t := 0) E hW (pr_eq g108.1) g109 g108.2 g110 g111 g112 rfl rfl dX4_init_88 (fun x113 H locs ex113 hW => ?_)
  have h := bnd_r ex113 h
  refine lv_aload_n E.1 E.2.1 dX4_init_89 rfl (lv_at hl 1 rfl) ?_
  obtain ⟨g114, h⟩ := gd_r h
  obtain ⟨g115, h⟩ := gd_r h
  obtain ⟨g116, h⟩ := gd_r h
  refine k_get E hW (k := 4) (T := TX4) (n := 8) g114 g115 g116 rfl in_X4 (by decide) rfl rfl ⟨rfl, rfl, rfl⟩ kw_181 dX4_init_90 ?_
  refine lv_iload_n E.1 E.2.1 dX4_init_93 rfl (lv_at hl 0 rfl) ?_
  obtain ⟨g117, h⟩ := gd_r h
  refine k_new E hW (T := TX2) (ty := tyX2) g117 rfl in_X2 tyX2_ok rfl df_X2 kw_173 kw_40 kw_3 ⟨(Nat.le_of_ble_eq_true rfl), (Nat.le_of_ble_eq_true rfl)⟩ dX4_init_94 (fun x118 H ex118 hW => ?_)
  have h := bnd_r ex118 h
  refine lv_dup E.1 E.2.1 dX4_init_97 rfl ?_
  obtain ⟨x119, cx119, h⟩ := obk_r h
  obtain ⟨g120, h⟩ := gd_r h
  refine k_IN (rest := [.ref (G.2.2.2 + x113.1), .int (1 : Int32), .ref (G.2.2.2 + (rC q0 4))]) E hAO hW (m_X2_init cx119) g120 kw_174 wi_X2_init yo_X2_init ⟨rfl, rfl⟩ ⟨(Nat.le_of_ble_eq_true rfl), (Nat.le_of_ble_eq_true rfl)⟩ (lv_size hl) (Nat.le_of_ble_eq_true rfl) ⟨(Nat.le_of_ble_eq_true rfl), (Nat.le_of_ble_eq_true rfl)⟩ dX4_init_98 (fun H locs hW => ?_)
  obtain ⟨g121, h⟩ := gd_r h
  obtain ⟨g122, h⟩ := gd_r h
  obtain ⟨g123, h⟩ := gd_r h
  obtain ⟨g124, h⟩ := gd_r h
  obtain ⟨g125, h⟩ := gd_r h
  refine k_aast (t := 0) E hW (pr_eq g121.1) g122 g121.2 g123 g124 g125 rfl rfl dX4_init_101 (fun x126 H locs ex126 hW => ?_)
  have h := bnd_r ex126 h
  refine lv_aload_n E.1 E.2.1 dX4_init_102 rfl (lv_at hl 1 rfl) ?_
  obtain ⟨g127, h⟩ := gd_r h
  obtain ⟨g128, h⟩ := gd_r h
  obtain ⟨g129, h⟩ := gd_r h
  refine k_get E hW (k := 5) (T := TX4) (n := 8) g127 g128 g129 rfl in_X4 (by decide) rfl rfl ⟨rfl, rfl, rfl⟩ kw_182 dX4_init_103 ?_
  refine lv_iload_n E.1 E.2.1 dX4_init_106 rfl (lv_at hl 0 rfl) ?_
  obtain ⟨g130, h⟩ := gd_r h
  refine k_new E hW (T := TX2) (ty := tyX2) g130 rfl in_X2 tyX2_ok rfl df_X2 kw_173 kw_40 kw_3 ⟨(Nat.le_of_ble_eq_true rfl), (Nat.le_of_ble_eq_true rfl)⟩ dX4_init_107 (fun x131 H ex131 hW => ?_)
  have h := bnd_r ex131 h
  refine lv_dup E.1 E.2.1 dX4_init_110 rfl ?_
  obtain ⟨x132, cx132, h⟩ := obk_r h
  obtain ⟨g133, h⟩ := gd_r h
  refine k_IN (rest := [.ref (G.2.2.2 + x126.1), .int (1 : Int32), .ref (G.2.2.2 + (rC q0 5))]) E hAO hW (m_X2_init cx132) g133 kw_174 wi_X2_init yo_X2_init ⟨rfl, rfl⟩ ⟨(Nat.le_of_ble_eq_true rfl), (Nat.le_of_ble_eq_true rfl)⟩ (lv_size hl) (Nat.le_of_ble_eq_true rfl) ⟨(Nat.le_of_ble_eq_true rfl), (Nat.le_of_ble_eq_true rfl)⟩ dX4_init_111 (fun H locs hW => ?_)
  obtain ⟨g134, h⟩ := gd_r h
  obtain ⟨g135, h⟩ := gd_r h
  obtain ⟨g136, h⟩ := gd_r h
  obtain ⟨g137, h⟩ := gd_r h
  obtain ⟨g138, h⟩ := gd_r h
  refine k_aast (t := 0) E hW (pr_eq g134.1) g135 g134.2 g136 g137 g138 rfl rfl dX4_init_114 (fun x139 H locs ex139 hW => ?_)
  have h := bnd_r ex139 h
  refine lv_aload_n E.1 E.2.1 dX4_init_115 rfl (lv_at hl 1 rfl) ?_
  obtain ⟨g140, h⟩ := gd_r h
  obtain ⟨g141, h⟩ := gd_r h
  obtain ⟨g142, h⟩ := gd_r h
  refine k_get E hW (k := 6) (T := TX4) (n := 8) g140 g141 g142 rfl in_X4 (by decide) rfl rfl ⟨rfl, rfl, rfl⟩ kw_183 dX4_init_116 ?_
  refine lv_iload_n E.1 E.2.1 dX4_init_119 rfl (lv_at hl 0 rfl) ?_
  obtain ⟨g143, h⟩ := gd_r h
  refine k_new E hW (T := TX2) (ty := tyX2) g143 rfl in_X2 tyX2_ok rfl df_X2 kw_173 kw_40 kw_3 ⟨(Nat.le_of_ble_eq_true rfl), (Nat.le_of_ble_eq_true rfl)⟩ dX4_init_120 (fun x144 H ex144 hW => ?_)
  have h := bnd_r ex144 h
  refine lv_dup E.1 E.2.1 dX4_init_123 rfl ?_
  obtain ⟨x145, cx145, h⟩ := obk_r h
  obtain ⟨g146, h⟩ := gd_r h
  refine k_IN (rest := [.ref (G.2.2.2 + x139.1), .int (1 : Int32), .ref (G.2.2.2 + (rC q0 6))]) E hAO hW (m_X2_init cx145) g146 kw_174 wi_X2_init yo_X2_init ⟨rfl, rfl⟩ ⟨(Nat.le_of_ble_eq_true rfl), (Nat.le_of_ble_eq_true rfl)⟩ (lv_size hl) (Nat.le_of_ble_eq_true rfl) ⟨(Nat.le_of_ble_eq_true rfl), (Nat.le_of_ble_eq_true rfl)⟩ dX4_init_124 (fun H locs hW => ?_)
  obtain ⟨g147, h⟩ := gd_r h
  obtain ⟨g148, h⟩ := gd_r h
  obtain ⟨g149, h⟩ := gd_r h
  obtain ⟨g150, h⟩ := gd_r h
  obtain ⟨g151, h⟩ := gd_r h
  refine k_aast (t := 0) E hW (pr_eq g147.1) g148 g147.2 g149 g150 g151 rfl rfl dX4_init_127 (fun x152 H locs ex152 hW => ?_)
  have h := bnd_r ex152 h
  refine lv_iinc (v := (2 : Int32)) (lv' := [(1, .int (2 : Int32)), (0, .ref (G.2.2.2 + q0))]) E.1 E.2.1 dX4_init_128 hl (k := 0) rfl (by decide) (by decide) rfl (fun ls hl => ?_)
  refine lv_goto (tgt := 71) E.1 E.2.1 dX4_init_131 (by decide) ?_
  refine lv_iload_n E.1 E.2.1 dX4_init_71 rfl (lv_at hl 0 rfl) ?_
  refine lv_iconst (v := (5 : Int32)) E.1 E.2.1 dX4_init_72 (by decide) ?_
  refine lv_icmp_ge (tgt := 134) E.1 E.2.1 dX4_init_73 (by decide) (fun g => absurd g (by decide)) (fun g => ?_)
  refine lv_aload_n E.1 E.2.1 dX4_init_76 rfl (lv_at hl 1 rfl) ?_
  obtain ⟨g153, h⟩ := gd_r h
  obtain ⟨g154, h⟩ := gd_r h
  obtain ⟨g155, h⟩ := gd_r h
  refine k_get E hW (k := 3) (T := TX4) (n := 8) g153 g154 g155 rfl in_X4 (by decide) rfl rfl ⟨rfl, rfl, rfl⟩ kw_180 dX4_init_77 ?_
  refine lv_iload_n E.1 E.2.1 dX4_init_80 rfl (lv_at hl 0 rfl) ?_
  obtain ⟨g156, h⟩ := gd_r h
  refine k_new E hW (T := TX2) (ty := tyX2) g156 rfl in_X2 tyX2_ok rfl df_X2 kw_173 kw_40 kw_3 ⟨(Nat.le_of_ble_eq_true rfl), (Nat.le_of_ble_eq_true rfl)⟩ dX4_init_81 (fun x157 H ex157 hW => ?_)
  have h := bnd_r ex157 h
  refine lv_dup E.1 E.2.1 dX4_init_84 rfl ?_
  obtain ⟨x158, cx158, h⟩ := obk_r h
  obtain ⟨g159, h⟩ := gd_r h
  refine k_IN (rest := [.ref (G.2.2.2 + x152.1), .int (2 : Int32), .ref (G.2.2.2 + (rC q0 3))]) E hAO hW (m_X2_init cx158) g159 kw_174 wi_X2_init yo_X2_init ⟨rfl, rfl⟩ ⟨(Nat.le_of_ble_eq_true rfl), (Nat.le_of_ble_eq_true rfl)⟩ (lv_size hl) (Nat.le_of_ble_eq_true rfl) ⟨(Nat.le_of_ble_eq_true rfl), (Nat.le_of_ble_eq_true rfl)⟩ dX4_init_85 (fun H locs hW => ?_)
  obtain ⟨g160, h⟩ := gd_r h
  obtain ⟨g161, h⟩ := gd_r h
  obtain ⟨g162, h⟩ := gd_r h
  obtain ⟨g163, h⟩ := gd_r h
  obtain ⟨g164, h⟩ := gd_r h
  refine k_aast (t := 0) E hW (pr_eq g160.1) g161 g160.2 g162 g163 g164 rfl rfl dX4_init_88 (fun x165 H locs ex165 hW => ?_)
  have h := bnd_r ex165 h
  refine lv_aload_n E.1 E.2.1 dX4_init_89 rfl (lv_at hl 1 rfl) ?_
  obtain ⟨g166, h⟩ := gd_r h
  obtain ⟨g167, h⟩ := gd_r h
  obtain ⟨g168, h⟩ := gd_r h
  refine k_get E hW (k := 4) (T := TX4) (n := 8) g166 g167 g168 rfl in_X4 (by decide) rfl rfl ⟨rfl, rfl, rfl⟩ kw_181 dX4_init_90 ?_
  refine lv_iload_n E.1 E.2.1 dX4_init_93 rfl (lv_at hl 0 rfl) ?_
  obtain ⟨g169, h⟩ := gd_r h
  refine k_new E hW (T := TX2) (ty := tyX2) g169 rfl in_X2 tyX2_ok rfl df_X2 kw_173 kw_40 kw_3 ⟨(Nat.le_of_ble_eq_true rfl), (Nat.le_of_ble_eq_true rfl)⟩ dX4_init_94 (fun x170 H ex170 hW => ?_)
  have h := bnd_r ex170 h
  refine lv_dup E.1 E.2.1 dX4_init_97 rfl ?_
  obtain ⟨x171, cx171, h⟩ := obk_r h
  obtain ⟨g172, h⟩ := gd_r h
  refine k_IN (rest := [.ref (G.2.2.2 + x165.1), .int (2 : Int32), .ref (G.2.2.2 + (rC q0 4))]) E hAO hW (m_X2_init cx171) g172 kw_174 wi_X2_init yo_X2_init ⟨rfl, rfl⟩ ⟨(Nat.le_of_ble_eq_true rfl), (Nat.le_of_ble_eq_true rfl)⟩ (lv_size hl) (Nat.le_of_ble_eq_true rfl) ⟨(Nat.le_of_ble_eq_true rfl), (Nat.le_of_ble_eq_true rfl)⟩ dX4_init_98 (fun H locs hW => ?_)
  obtain ⟨g173, h⟩ := gd_r h
  obtain ⟨g174, h⟩ := gd_r h
  obtain ⟨g175, h⟩ := gd_r h
  obtain ⟨g176, h⟩ := gd_r h
  obtain ⟨g177, h⟩ := gd_r h
  refine k_aast (t := 0) E hW (pr_eq g173.1) g174 g173.2 g175 g176 g177 rfl rfl dX4_init_101 (fun x178 H locs ex178 hW => ?_)
  have h := bnd_r ex178 h
  refine lv_aload_n E.1 E.2.1 dX4_init_102 rfl (lv_at hl 1 rfl) ?_
  obtain ⟨g179, h⟩ := gd_r h
  obtain ⟨g180, h⟩ := gd_r h
  obtain ⟨g181, h⟩ := gd_r h
  refine k_get E hW (k := 5) (T := TX4) (n := 8) g179 g180 g181 rfl in_X4 (by decide) rfl rfl ⟨rfl, rfl, rfl⟩ kw_182 dX4_init_103 ?_
  refine lv_iload_n E.1 E.2.1 dX4_init_106 rfl (lv_at hl 0 rfl) ?_
  obtain ⟨g182, h⟩ := gd_r h
  refine k_new E hW (T := TX2) (ty := tyX2) g182 rfl in_X2 tyX2_ok rfl df_X2 kw_173 kw_40 kw_3 ⟨(Nat.le_of_ble_eq_true rfl), (Nat.le_of_ble_eq_true rfl)⟩ dX4_init_107 (fun x183 H ex183 hW => ?_)
  have h := bnd_r ex183 h
  refine lv_dup E.1 E.2.1 dX4_init_110 rfl ?_
  obtain ⟨x184, cx184, h⟩ := obk_r h
  obtain ⟨g185, h⟩ := gd_r h
  refine k_IN (rest := [.ref (G.2.2.2 + x178.1), .int (2 : Int32), .ref (G.2.2.2 + (rC q0 5))]) E hAO hW (m_X2_init cx184) g185 kw_174 wi_X2_init yo_X2_init ⟨rfl, rfl⟩ ⟨(Nat.le_of_ble_eq_true rfl), (Nat.le_of_ble_eq_true rfl)⟩ (lv_size hl) (Nat.le_of_ble_eq_true rfl) ⟨(Nat.le_of_ble_eq_true rfl), (Nat.le_of_ble_eq_true rfl)⟩ dX4_init_111 (fun H locs hW => ?_)
  obtain ⟨g186, h⟩ := gd_r h
  obtain ⟨g187, h⟩ := gd_r h
  obtain ⟨g188, h⟩ := gd_r h
  obtain ⟨g189, h⟩ := gd_r h
  obtain ⟨g190, h⟩ := gd_r h
  refine k_aast (t := 0) E hW (pr_eq g186.1) g187 g186.2 g188 g189 g190 rfl rfl dX4_init_114 (fun x191 H locs ex191 hW => ?_)
  have h := bnd_r ex191 h
  refine lv_aload_n E.1 E.2.1 dX4_init_115 rfl (lv_at hl 1 rfl) ?_
  obtain ⟨g192, h⟩ := gd_r h
  obtain ⟨g193, h⟩ := gd_r h
  obtain ⟨g194, h⟩ := gd_r h
  refine k_get E hW (k := 6) (T := TX4) (n := 8) g192 g193 g194 rfl in_X4 (by decide) rfl rfl ⟨rfl, rfl, rfl⟩ kw_183 dX4_init_116 ?_
  refine lv_iload_n E.1 E.2.1 dX4_init_119 rfl (lv_at hl 0 rfl) ?_
  obtain ⟨g195, h⟩ := gd_r h
  refine k_new E hW (T := TX2) (ty := tyX2) g195 rfl in_X2 tyX2_ok rfl df_X2 kw_173 kw_40 kw_3 ⟨(Nat.le_of_ble_eq_true rfl), (Nat.le_of_ble_eq_true rfl)⟩ dX4_init_120 (fun x196 H ex196 hW => ?_)
  have h := bnd_r ex196 h
  refine lv_dup E.1 E.2.1 dX4_init_123 rfl ?_
  obtain ⟨x197, cx197, h⟩ := obk_r h
  obtain ⟨g198, h⟩ := gd_r h
  refine k_IN (rest := [.ref (G.2.2.2 + x191.1), .int (2 : Int32), .ref (G.2.2.2 + (rC q0 6))]) E hAO hW (m_X2_init cx197) g198 kw_174 wi_X2_init yo_X2_init ⟨rfl, rfl⟩ ⟨(Nat.le_of_ble_eq_true rfl), (Nat.le_of_ble_eq_true rfl)⟩ (lv_size hl) (Nat.le_of_ble_eq_true rfl) ⟨(Nat.le_of_ble_eq_true rfl), (Nat.le_of_ble_eq_true rfl)⟩ dX4_init_124 (fun H locs hW => ?_)
  obtain ⟨g199, h⟩ := gd_r h
  obtain ⟨g200, h⟩ := gd_r h
  obtain ⟨g201, h⟩ := gd_r h
  obtain ⟨g202, h⟩ := gd_r h
  obtain ⟨g203, h⟩ := gd_r h
  refine k_aast (t := 0) E hW (pr_eq g199.1) g200 g199.2 g201 g202 g203 rfl rfl dX4_init_127 (fun x204 H locs ex204 hW => ?_)
  have h := bnd_r ex204 h
  refine lv_iinc (v := (3 : Int32)) (lv' := [(1, .int (3 : Int32)), (0, .ref (G.2.2.2 + q0))]) E.1 E.2.1 dX4_init_128 hl (k := 0) rfl (by decide) (by decide) rfl (fun ls hl => ?_)
  refine lv_goto (tgt := 71) E.1 E.2.1 dX4_init_131 (by decide) ?_
  refine lv_iload_n E.1 E.2.1 dX4_init_71 rfl (lv_at hl 0 rfl) ?_
  refine lv_iconst (v := (5 : Int32)) E.1 E.2.1 dX4_init_72 (by decide) ?_
  refine lv_icmp_ge (tgt := 134) E.1 E.2.1 dX4_init_73 (by decide) (fun g => absurd g (by decide)) (fun g => ?_)
  refine lv_aload_n E.1 E.2.1 dX4_init_76 rfl (lv_at hl 1 rfl) ?_
  obtain ⟨g205, h⟩ := gd_r h
  obtain ⟨g206, h⟩ := gd_r h
  obtain ⟨g207, h⟩ := gd_r h
  refine k_get E hW (k := 3) (T := TX4) (n := 8) g205 g206 g207 rfl in_X4 (by decide) rfl rfl ⟨rfl, rfl, rfl⟩ kw_180 dX4_init_77 ?_
  refine lv_iload_n E.1 E.2.1 dX4_init_80 rfl (lv_at hl 0 rfl) ?_
  obtain ⟨g208, h⟩ := gd_r h
  refine k_new E hW (T := TX2) (ty := tyX2) g208 rfl in_X2 tyX2_ok rfl df_X2 kw_173 kw_40 kw_3 ⟨(Nat.le_of_ble_eq_true rfl), (Nat.le_of_ble_eq_true rfl)⟩ dX4_init_81 (fun x209 H ex209 hW => ?_)
  have h := bnd_r ex209 h
  refine lv_dup E.1 E.2.1 dX4_init_84 rfl ?_
  obtain ⟨x210, cx210, h⟩ := obk_r h
  obtain ⟨g211, h⟩ := gd_r h
  refine k_IN (rest := [.ref (G.2.2.2 + x204.1), .int (3 : Int32), .ref (G.2.2.2 + (rC q0 3))]) E hAO hW (m_X2_init cx210) g211 kw_174 wi_X2_init yo_X2_init ⟨rfl, rfl⟩ ⟨(Nat.le_of_ble_eq_true rfl), (Nat.le_of_ble_eq_true rfl)⟩ (lv_size hl) (Nat.le_of_ble_eq_true rfl) ⟨(Nat.le_of_ble_eq_true rfl), (Nat.le_of_ble_eq_true rfl)⟩ dX4_init_85 (fun H locs hW => ?_)
  obtain ⟨g212, h⟩ := gd_r h
  obtain ⟨g213, h⟩ := gd_r h
  obtain ⟨g214, h⟩ := gd_r h
  obtain ⟨g215, h⟩ := gd_r h
  obtain ⟨g216, h⟩ := gd_r h
  refine k_aast (t := 0) E hW (pr_eq g212.1) g213 g212.2 g214 g215 g216 rfl rfl dX4_init_88 (fun x217 H locs ex217 hW => ?_)
  have h := bnd_r ex217 h
  refine lv_aload_n E.1 E.2.1 dX4_init_89 rfl (lv_at hl 1 rfl) ?_
  obtain ⟨g218, h⟩ := gd_r h
  obtain ⟨g219, h⟩ := gd_r h
  obtain ⟨g220, h⟩ := gd_r h
  refine k_get E hW (k := 4) (T := TX4) (n := 8) g218 g219 g220 rfl in_X4 (by decide) rfl rfl ⟨rfl, rfl, rfl⟩ kw_181 dX4_init_90 ?_
  refine lv_iload_n E.1 E.2.1 dX4_init_93 rfl (lv_at hl 0 rfl) ?_
  obtain ⟨g221, h⟩ := gd_r h
  refine k_new E hW (T := TX2) (ty := tyX2) g221 rfl in_X2 tyX2_ok rfl df_X2 kw_173 kw_40 kw_3 ⟨(Nat.le_of_ble_eq_true rfl), (Nat.le_of_ble_eq_true rfl)⟩ dX4_init_94 (fun x222 H ex222 hW => ?_)
  have h := bnd_r ex222 h
  refine lv_dup E.1 E.2.1 dX4_init_97 rfl ?_
  obtain ⟨x223, cx223, h⟩ := obk_r h
  obtain ⟨g224, h⟩ := gd_r h
  refine k_IN (rest := [.ref (G.2.2.2 + x217.1), .int (3 : Int32), .ref (G.2.2.2 + (rC q0 4))]) E hAO hW (m_X2_init cx223) g224 kw_174 wi_X2_init yo_X2_init ⟨rfl, rfl⟩ ⟨(Nat.le_of_ble_eq_true rfl), (Nat.le_of_ble_eq_true rfl)⟩ (lv_size hl) (Nat.le_of_ble_eq_true rfl) ⟨(Nat.le_of_ble_eq_true rfl), (Nat.le_of_ble_eq_true rfl)⟩ dX4_init_98 (fun H locs hW => ?_)
  obtain ⟨g225, h⟩ := gd_r h
  obtain ⟨g226, h⟩ := gd_r h
  obtain ⟨g227, h⟩ := gd_r h
  obtain ⟨g228, h⟩ := gd_r h
  obtain ⟨g229, h⟩ := gd_r h
  refine k_aast (t := 0) E hW (pr_eq g225.1) g226 g225.2 g227 g228 g229 rfl rfl dX4_init_101 (fun x230 H locs ex230 hW => ?_)
  have h := bnd_r ex230 h
  refine lv_aload_n E.1 E.2.1 dX4_init_102 rfl (lv_at hl 1 rfl) ?_
  obtain ⟨g231, h⟩ := gd_r h
  obtain ⟨g232, h⟩ := gd_r h
  obtain ⟨g233, h⟩ := gd_r h
  refine k_get E hW (k := 5) (T := TX4) (n := 8) g231 g232 g233 rfl in_X4 (by decide) rfl rfl ⟨rfl, rfl, rfl⟩ kw_182 dX4_init_103 ?_
  refine lv_iload_n E.1 E.2.1 dX4_init_106 rfl (lv_at hl 0 rfl) ?_
  obtain ⟨g234, h⟩ := gd_r h
  refine k_new E hW (T := TX2) (ty := tyX2) g234 rfl in_X2 tyX2_ok rfl df_X2 kw_173 kw_40 kw_3 ⟨(Nat.le_of_ble_eq_true rfl), (Nat.le_of_ble_eq_true rfl)⟩ dX4_init_107 (fun x235 H ex235 hW => ?_)
  have h := bnd_r ex235 h
  refine lv_dup E.1 E.2.1 dX4_init_110 rfl ?_
  obtain ⟨x236, cx236, h⟩ := obk_r h
  obtain ⟨g237, h⟩ := gd_r h
  refine k_IN (rest := [.ref (G.2.2.2 + x230.1), .int (3 : Int32), .ref (G.2.2.2 + (rC q0 5))]) E hAO hW (m_X2_init cx236) g237 kw_174 wi_X2_init yo_X2_init ⟨rfl, rfl⟩ ⟨(Nat.le_of_ble_eq_true rfl), (Nat.le_of_ble_eq_true rfl)⟩ (lv_size hl) (Nat.le_of_ble_eq_true rfl) ⟨(Nat.le_of_ble_eq_true rfl), (Nat.le_of_ble_eq_true rfl)⟩ dX4_init_111 (fun H locs hW => ?_)
  obtain ⟨g238, h⟩ := gd_r h
  obtain ⟨g239, h⟩ := gd_r h
  obtain ⟨g240, h⟩ := gd_r h
  obtain ⟨g241, h⟩ := gd_r h
  obtain ⟨g242, h⟩ := gd_r h
  refine k_aast (t := 0) E hW (pr_eq g238.1) g239 g238.2 g240 g241 g242 rfl rfl dX4_init_114 (fun x243 H locs ex243 hW => ?_)
  have h := bnd_r ex243 h
  refine lv_aload_n E.1 E.2.1 dX4_init_115 rfl (lv_at hl 1 rfl) ?_
  obtain ⟨g244, h⟩ := gd_r h
  obtain ⟨g245, h⟩ := gd_r h
  obtain ⟨g246, h⟩ := gd_r h
  refine k_get E hW (k := 6) (T := TX4) (n := 8) g244 g245 g246 rfl in_X4 (by decide) rfl rfl ⟨rfl, rfl, rfl⟩ kw_183 dX4_init_116 ?_
  refine lv_iload_n E.1 E.2.1 dX4_init_119 rfl (lv_at hl 0 rfl) ?_
  obtain ⟨g247, h⟩ := gd_r h
  refine k_new E hW (T := TX2) (ty := tyX2) g247 rfl in_X2 tyX2_ok rfl df_X2 kw_173 kw_40 kw_3 ⟨(Nat.le_of_ble_eq_true rfl), (Nat.le_of_ble_eq_true rfl)⟩ dX4_init_120 (fun x248 H ex248 hW => ?_)
  have h := bnd_r ex248 h
  refine lv_dup E.1 E.2.1 dX4_init_123 rfl ?_
  obtain ⟨x249, cx249, h⟩ := obk_r h
  obtain ⟨g250, h⟩ := gd_r h
  refine k_IN (rest := [.ref (G.2.2.2 + x243.1), .int (3 : Int32), .ref (G.2.2.2 + (rC q0 6))]) E hAO hW (m_X2_init cx249) g250 kw_174 wi_X2_init yo_X2_init ⟨rfl, rfl⟩ ⟨(Nat.le_of_ble_eq_true rfl), (Nat.le_of_ble_eq_true rfl)⟩ (lv_size hl) (Nat.le_of_ble_eq_true rfl) ⟨(Nat.le_of_ble_eq_true rfl), (Nat.le_of_ble_eq_true rfl)⟩ dX4_init_124 (fun H locs hW => ?_)
  obtain ⟨g251, h⟩ := gd_r h
  obtain ⟨g252, h⟩ := gd_r h
  obtain ⟨g253, h⟩ := gd_r h
  obtain ⟨g254, h⟩ := gd_r h
  obtain ⟨g255, h⟩ := gd_r h
  refine k_aast (t := 0) E hW (pr_eq g251.1) g252 g251.2 g253 g254 g255 rfl rfl dX4_init_127 (fun x256 H locs ex256 hW => ?_)
  have h := bnd_r ex256 h
  refine lv_iinc (v := (4 : Int32)) (lv' := [(1, .int (4 : Int32)), (0, .ref (G.2.2.2 + q0))]) E.1 E.2.1 dX4_init_128 hl (k := 0) rfl (by decide) (by decide) rfl (fun ls hl => ?_)
  refine lv_goto (tgt := 71) E.1 E.2.1 dX4_init_131 (by decide) ?_
  refine lv_iload_n E.1 E.2.1 dX4_init_71 rfl (lv_at hl 0 rfl) ?_
  refine lv_iconst (v := (5 : Int32)) E.1 E.2.1 dX4_init_72 (by decide) ?_
  refine lv_icmp_ge (tgt := 134) E.1 E.2.1 dX4_init_73 (by decide) (fun g => absurd g (by decide)) (fun g => ?_)
  refine lv_aload_n E.1 E.2.1 dX4_init_76 rfl (lv_at hl 1 rfl) ?_
  obtain ⟨g257, h⟩ := gd_r h
  obtain ⟨g258, h⟩ := gd_r h
  obtain ⟨g259, h⟩ := gd_r h
  refine k_get E hW (k := 3) (T := TX4) (n := 8) g257 g258 g259 rfl in_X4 (by decide) rfl rfl ⟨rfl, rfl, rfl⟩ kw_180 dX4_init_77 ?_
  refine lv_iload_n E.1 E.2.1 dX4_init_80 rfl (lv_at hl 0 rfl) ?_
  obtain ⟨g260, h⟩ := gd_r h
  refine k_new E hW (T := TX2) (ty := tyX2) g260 rfl in_X2 tyX2_ok rfl df_X2 kw_173 kw_40 kw_3 ⟨(Nat.le_of_ble_eq_true rfl), (Nat.le_of_ble_eq_true rfl)⟩ dX4_init_81 (fun x261 H ex261 hW => ?_)
  have h := bnd_r ex261 h
  refine lv_dup E.1 E.2.1 dX4_init_84 rfl ?_
  obtain ⟨x262, cx262, h⟩ := obk_r h
  obtain ⟨g263, h⟩ := gd_r h
  refine k_IN (rest := [.ref (G.2.2.2 + x256.1), .int (4 : Int32), .ref (G.2.2.2 + (rC q0 3))]) E hAO hW (m_X2_init cx262) g263 kw_174 wi_X2_init yo_X2_init ⟨rfl, rfl⟩ ⟨(Nat.le_of_ble_eq_true rfl), (Nat.le_of_ble_eq_true rfl)⟩ (lv_size hl) (Nat.le_of_ble_eq_true rfl) ⟨(Nat.le_of_ble_eq_true rfl), (Nat.le_of_ble_eq_true rfl)⟩ dX4_init_85 (fun H locs hW => ?_)
  obtain ⟨g264, h⟩ := gd_r h
  obtain ⟨g265, h⟩ := gd_r h
  obtain ⟨g266, h⟩ := gd_r h
  obtain ⟨g267, h⟩ := gd_r h
  obtain ⟨g268, h⟩ := gd_r h
  refine k_aast (t := 0) E hW (pr_eq g264.1) g265 g264.2 g266 g267 g268 rfl rfl dX4_init_88 (fun x269 H locs ex269 hW => ?_)
  have h := bnd_r ex269 h
  refine lv_aload_n E.1 E.2.1 dX4_init_89 rfl (lv_at hl 1 rfl) ?_
  obtain ⟨g270, h⟩ := gd_r h
  obtain ⟨g271, h⟩ := gd_r h
  obtain ⟨g272, h⟩ := gd_r h
  refine k_get E hW (k := 4) (T := TX4) (n := 8) g270 g271 g272 rfl in_X4 (by decide) rfl rfl ⟨rfl, rfl, rfl⟩ kw_181 dX4_init_90 ?_
  refine lv_iload_n E.1 E.2.1 dX4_init_93 rfl (lv_at hl 0 rfl) ?_
  obtain ⟨g273, h⟩ := gd_r h
  refine k_new E hW (T := TX2) (ty := tyX2) g273 rfl in_X2 tyX2_ok rfl df_X2 kw_173 kw_40 kw_3 ⟨(Nat.le_of_ble_eq_true rfl), (Nat.le_of_ble_eq_true rfl)⟩ dX4_init_94 (fun x274 H ex274 hW => ?_)
  have h := bnd_r ex274 h
  refine lv_dup E.1 E.2.1 dX4_init_97 rfl ?_
  obtain ⟨x275, cx275, h⟩ := obk_r h
  obtain ⟨g276, h⟩ := gd_r h
  refine k_IN (rest := [.ref (G.2.2.2 + x269.1), .int (4 : Int32), .ref (G.2.2.2 + (rC q0 4))]) E hAO hW (m_X2_init cx275) g276 kw_174 wi_X2_init yo_X2_init ⟨rfl, rfl⟩ ⟨(Nat.le_of_ble_eq_true rfl), (Nat.le_of_ble_eq_true rfl)⟩ (lv_size hl) (Nat.le_of_ble_eq_true rfl) ⟨(Nat.le_of_ble_eq_true rfl), (Nat.le_of_ble_eq_true rfl)⟩ dX4_init_98 (fun H locs hW => ?_)
  obtain ⟨g277, h⟩ := gd_r h
  obtain ⟨g278, h⟩ := gd_r h
  obtain ⟨g279, h⟩ := gd_r h
  obtain ⟨g280, h⟩ := gd_r h
  obtain ⟨g281, h⟩ := gd_r h
  refine k_aast (t := 0) E hW (pr_eq g277.1) g278 g277.2 g279 g280 g281 rfl rfl dX4_init_101 (fun x282 H locs ex282 hW => ?_)
  have h := bnd_r ex282 h
  refine lv_aload_n E.1 E.2.1 dX4_init_102 rfl (lv_at hl 1 rfl) ?_
  obtain ⟨g283, h⟩ := gd_r h
  obtain ⟨g284, h⟩ := gd_r h
  obtain ⟨g285, h⟩ := gd_r h
  refine k_get E hW (k := 5) (T := TX4) (n := 8) g283 g284 g285 rfl in_X4 (by decide) rfl rfl ⟨rfl, rfl, rfl⟩ kw_182 dX4_init_103 ?_
  refine lv_iload_n E.1 E.2.1 dX4_init_106 rfl (lv_at hl 0 rfl) ?_
  obtain ⟨g286, h⟩ := gd_r h
  refine k_new E hW (T := TX2) (ty := tyX2) g286 rfl in_X2 tyX2_ok rfl df_X2 kw_173 kw_40 kw_3 ⟨(Nat.le_of_ble_eq_true rfl), (Nat.le_of_ble_eq_true rfl)⟩ dX4_init_107 (fun x287 H ex287 hW => ?_)
  have h := bnd_r ex287 h
  refine lv_dup E.1 E.2.1 dX4_init_110 rfl ?_
  obtain ⟨x288, cx288, h⟩ := obk_r h
  obtain ⟨g289, h⟩ := gd_r h
  refine k_IN (rest := [.ref (G.2.2.2 + x282.1), .int (4 : Int32), .ref (G.2.2.2 + (rC q0 5))]) E hAO hW (m_X2_init cx288) g289 kw_174 wi_X2_init yo_X2_init ⟨rfl, rfl⟩ ⟨(Nat.le_of_ble_eq_true rfl), (Nat.le_of_ble_eq_true rfl)⟩ (lv_size hl) (Nat.le_of_ble_eq_true rfl) ⟨(Nat.le_of_ble_eq_true rfl), (Nat.le_of_ble_eq_true rfl)⟩ dX4_init_111 (fun H locs hW => ?_)
  obtain ⟨g290, h⟩ := gd_r h
  obtain ⟨g291, h⟩ := gd_r h
  obtain ⟨g292, h⟩ := gd_r h
  obtain ⟨g293, h⟩ := gd_r h
  obtain ⟨g294, h⟩ := gd_r h
  refine k_aast (t := 0) E hW (pr_eq g290.1) g291 g290.2 g292 g293 g294 rfl rfl dX4_init_114 (fun x295 H locs ex295 hW => ?_)
  have h := bnd_r ex295 h
  refine lv_aload_n E.1 E.2.1 dX4_init_115 rfl (lv_at hl 1 rfl) ?_
  obtain ⟨g296, h⟩ := gd_r h
  obtain ⟨g297, h⟩ := gd_r h
  obtain ⟨g298, h⟩ := gd_r h
  refine k_get E hW (k := 6) (T := TX4) (n := 8) g296 g297 g298 rfl in_X4 (by decide) rfl rfl ⟨rfl, rfl, rfl⟩ kw_183 dX4_init_116 ?_
  refine lv_iload_n E.1 E.2.1 dX4_init_119 rfl (lv_at hl 0 rfl) ?_
  obtain ⟨g299, h⟩ := gd_r h
  refine k_new E hW (T := TX2) (ty := tyX2) g299 rfl in_X2 tyX2_ok rfl df_X2 kw_173 kw_40 kw_3 ⟨(Nat.le_of_ble_eq_true rfl), (Nat.le_of_ble_eq_true rfl)⟩ dX4_init_120 (fun x300 H ex300 hW => ?_)
  have h := bnd_r ex300 h
  refine lv_dup E.1 E.2.1 dX4_init_123 rfl ?_
  obtain ⟨x301, cx301, h⟩ := obk_r h
  obtain ⟨g302, h⟩ := gd_r h
  refine k_IN (rest := [.ref (G.2.2.2 + x295.1), .int (4 : Int32), .ref (G.2.2.2 + (rC q0 6))]) E hAO hW (m_X2_init cx301) g302 kw_174 wi_X2_init yo_X2_init ⟨rfl, rfl⟩ ⟨(Nat.le_of_ble_eq_true rfl), (Nat.le_of_ble_eq_true rfl)⟩ (lv_size hl) (Nat.le_of_ble_eq_true rfl) ⟨(Nat.le_of_ble_eq_true rfl), (Nat.le_of_ble_eq_true rfl)⟩ dX4_init_124 (fun H locs hW => ?_)
  obtain ⟨g303, h⟩ := gd_r h
  obtain ⟨g304, h⟩ := gd_r h
  obtain ⟨g305, h⟩ := gd_r h
  obtain ⟨g306, h⟩ := gd_r h
  obtain ⟨g307, h⟩ := gd_r h
  refine k_aast (t := 0) E hW (pr_eq g303.1) g304 g303.2 g305 g306 g307 rfl rfl dX4_init_127 (fun x308 H locs ex308 hW => ?_)
  have h := bnd_r ex308 h
  refine lv_iinc (v := (5 : Int32)) (lv' := [(1, .int (5 : Int32)), (0, .ref (G.2.2.2 + q0))]) E.1 E.2.1 dX4_init_128 hl (k := 0) rfl (by decide) (by decide) rfl (fun ls hl => ?_)
  refine lv_goto (tgt := 71) E.1 E.2.1 dX4_init_131 (by decide) ?_
  refine lv_iload_n E.1 E.2.1 dX4_init_71 rfl (lv_at hl 0 rfl) ?_
  refine lv_iconst (v := (5 : Int32)) E.1 E.2.1 dX4_init_72 (by decide) ?_
  refine lv_icmp_ge (tgt := 134) E.1 E.2.1 dX4_init_73 (by decide) (fun g => ?_) (fun g => absurd (by decide) g)
  exact k_ret E hW hr hlk h (Nat.le_of_ble_eq_true rfl) (Nat.le_of_ble_eq_true rfl) dX4_init_134
set_option maxHeartbeats 4000000 in
set_option maxRecDepth 100000 in
theorem m_X6_init {l : Launch} {G : GP} {sz q0 : Nat} {x x0 : Sg} (h : f_X6_init q0 x = some x0) : Met l yX6_init [.code yX6_init cX6_init 1 none] ({ frames := 4, cells := 257, slots := 3807, locals := 86 } : Room) (va_Pc [Value.ref (G.2.2.2 + q0)] (PreK G skC sz x)) (QO (PoK G skC x0) (Aw G.2.2.2 skC.1 sz) none) 257 3807 (Aw G.2.2.2 skC.1 sz) := by
  refine mkMetK (by decide +kernel) (Nat.le_of_ble_eq_true rfl) skC_ok ?_
  intro p e s m below meth c ls E hAO hW hl hr hlk hin0
  have hl : lv_has ls 1 [(0, .ref (G.2.2.2 + q0))] := hl
  generalize Aw G.2.2.2 skC.1 s.heap.size = A0 at E hW ⊢
  generalize ([Value.ref (G.2.2.2 + q0)] : List Value).toArray = args
  unfold f_X6_init at h
  refine lv_aload_n E.1 E.2.1 dX6_init_0 rfl (lv_at hl 0 rfl) ?_
  refine k_obj E (lv_size hl) kw_29 kw_30 kw_31 ⟨(Nat.le_of_ble_eq_true rfl), (Nat.le_of_ble_eq_true rfl)⟩ dX6_init_1 ?_
  refine lv_aload_n E.1 E.2.1 dX6_init_4 rfl (lv_at hl 0 rfl) ?_
  obtain ⟨g1, h⟩ := gd_r h
  refine k_new E hW (T := TX3) (ty := tyX3) g1 rfl in_X3 tyX3_ok rfl df_X3 kw_32 kw_33 kw_2 ⟨(Nat.le_of_ble_eq_true rfl), (Nat.le_of_ble_eq_true rfl)⟩ dX6_init_5 (fun x2 H ex2 hW => ?_)
  have h := bnd_r ex2 h
  refine lv_dup E.1 E.2.1 dX6_init_8 rfl ?_
  obtain ⟨x3, cx3, h⟩ := obk_r h
  obtain ⟨g4, h⟩ := gd_r h
  refine k_I (rest := [.ref (G.2.2.2 + x.1), .ref (G.2.2.2 + q0)]) E hAO hW (m_X3_init cx3) g4 kw_34 wi_X3_init yo_X3_init ⟨rfl, rfl⟩ ⟨(Nat.le_of_ble_eq_true rfl), (Nat.le_of_ble_eq_true rfl)⟩ (lv_size hl) (Nat.le_of_ble_eq_true rfl) ⟨(Nat.le_of_ble_eq_true rfl), (Nat.le_of_ble_eq_true rfl)⟩ dX6_init_9 (fun H locs hW => ?_)
  obtain ⟨g5, h⟩ := gd_r h
  obtain ⟨g6, h⟩ := gd_r h
  obtain ⟨g7, h⟩ := gd_r h
  refine k_putF E hW (k := 0) (T := TX6) (n := 6) (ty := tyX6 0) hin0 g5 g6 g7 rfl in_X6 (by decide) rfl rfl tyX6_ok nmX6 ⟨rfl, rfl, rfl, rfl⟩ rfl (by decide +kernel) ⟨fun _ => rfl, fun _ => rfl⟩ kw_205 dX6_init_12 (fun x8 H locs ex8 hW => ?_)
  have h := bnd_r ex8 h
  refine lv_aload_n E.1 E.2.1 dX6_init_15 rfl (lv_at hl 0 rfl) ?_
  obtain ⟨g9, h⟩ := gd_r h
  refine k_new E hW (T := TX1) (ty := tyX1) g9 rfl in_X1 tyX1_ok rfl df_X1 kw_72 kw_73 kw_4 ⟨(Nat.le_of_ble_eq_true rfl), (Nat.le_of_ble_eq_true rfl)⟩ dX6_init_16 (fun x10 H ex10 hW => ?_)
  have h := bnd_r ex10 h
  refine lv_dup E.1 E.2.1 dX6_init_19 rfl ?_
  obtain ⟨x11, cx11, h⟩ := obk_r h
  obtain ⟨g12, h⟩ := gd_r h
  refine k_I (rest := [.ref (G.2.2.2 + x8.1), .ref (G.2.2.2 + q0)]) E hAO hW (m_X1_init cx11) g12 kw_74 wi_X1_init yo_X1_init ⟨rfl, rfl⟩ ⟨(Nat.le_of_ble_eq_true rfl), (Nat.le_of_ble_eq_true rfl)⟩ (lv_size hl) (Nat.le_of_ble_eq_true rfl) ⟨(Nat.le_of_ble_eq_true rfl), (Nat.le_of_ble_eq_true rfl)⟩ dX6_init_20 (fun H locs hW => ?_)
  obtain ⟨g13, h⟩ := gd_r h
  obtain ⟨g14, h⟩ := gd_r h
  obtain ⟨g15, h⟩ := gd_r h
  refine k_putF E hW (k := 1) (T := TX6) (n := 6) (ty := tyX6 1) hin0 g13 g14 g15 rfl in_X6 (by decide) rfl rfl tyX6_ok nmX6 ⟨rfl, rfl, rfl, rfl⟩ rfl (by decide +kernel) ⟨fun _ => rfl, fun _ => rfl⟩ kw_206 dX6_init_23 (fun x16 H locs ex16 hW => ?_)
  have h := bnd_r ex16 h
  refine lv_aload_n E.1 E.2.1 dX6_init_26 rfl (lv_at hl 0 rfl) ?_
  obtain ⟨g17, h⟩ := gd_r h
  refine k_new E hW (T := TX0) (ty := tyX0) g17 rfl in_X0 tyX0_ok rfl df_X0 kw_92 kw_93 kw_5 ⟨(Nat.le_of_ble_eq_true rfl), (Nat.le_of_ble_eq_true rfl)⟩ dX6_init_27 (fun x18 H ex18 hW => ?_)
  have h := bnd_r ex18 h
  refine lv_dup E.1 E.2.1 dX6_init_30 rfl ?_
  obtain ⟨x19, cx19, h⟩ := obk_r h
  obtain ⟨g20, h⟩ := gd_r h
  refine k_IN (rest := [.ref (G.2.2.2 + x16.1), .ref (G.2.2.2 + q0)]) E hAO hW (m_X0_init cx19) g20 kw_94 wi_X0_init yo_X0_init ⟨rfl, rfl⟩ ⟨(Nat.le_of_ble_eq_true rfl), (Nat.le_of_ble_eq_true rfl)⟩ (lv_size hl) (Nat.le_of_ble_eq_true rfl) ⟨(Nat.le_of_ble_eq_true rfl), (Nat.le_of_ble_eq_true rfl)⟩ dX6_init_31 (fun H locs hW => ?_)
  obtain ⟨g21, h⟩ := gd_r h
  obtain ⟨g22, h⟩ := gd_r h
  obtain ⟨g23, h⟩ := gd_r h
  refine k_putF E hW (k := 2) (T := TX6) (n := 6) (ty := tyX6 2) hin0 g21 g22 g23 rfl in_X6 (by decide) rfl rfl tyX6_ok nmX6 ⟨rfl, rfl, rfl, rfl⟩ rfl (by decide +kernel) ⟨fun _ => rfl, fun _ => rfl⟩ kw_207 dX6_init_34 (fun x24 H locs ex24 hW => ?_)
  have h := bnd_r ex24 h
  refine lv_aload_n E.1 E.2.1 dX6_init_37 rfl (lv_at hl 0 rfl) ?_
  obtain ⟨g25, h⟩ := gd_r h
  refine k_new E hW (T := TX4) (ty := tyX4) g25 rfl in_X4 tyX4_ok rfl df_X4 kw_125 kw_126 kw_6 ⟨(Nat.le_of_ble_eq_true rfl), (Nat.le_of_ble_eq_true rfl)⟩ dX6_init_38 (fun x26 H ex26 hW => ?_)
  have h := bnd_r ex26 h
  refine lv_dup E.1 E.2.1 dX6_init_41 rfl ?_
  obtain ⟨x27, cx27, h⟩ := obk_r h
  obtain ⟨g28, h⟩ := gd_r h
  refine k_I (rest := [.ref (G.2.2.2 + x24.1), .ref (G.2.2.2 + q0)]) E hAO hW (m_X4_init cx27) g28 kw_127 wi_X4_init yo_X4_init ⟨rfl, rfl⟩ ⟨(Nat.le_of_ble_eq_true rfl), (Nat.le_of_ble_eq_true rfl)⟩ (lv_size hl) (Nat.le_of_ble_eq_true rfl) ⟨(Nat.le_of_ble_eq_true rfl), (Nat.le_of_ble_eq_true rfl)⟩ dX6_init_42 (fun H locs hW => ?_)
  obtain ⟨g29, h⟩ := gd_r h
  obtain ⟨g30, h⟩ := gd_r h
  obtain ⟨g31, h⟩ := gd_r h
  refine k_putF E hW (k := 3) (T := TX6) (n := 6) (ty := tyX6 3) hin0 g29 g30 g31 rfl in_X6 (by decide) rfl rfl tyX6_ok nmX6 ⟨rfl, rfl, rfl, rfl⟩ rfl (by decide +kernel) ⟨fun _ => rfl, fun _ => rfl⟩ kw_208 dX6_init_45 (fun x32 H locs ex32 hW => ?_)
  have h := bnd_r ex32 h
  refine lv_aload_n E.1 E.2.1 dX6_init_48 rfl (lv_at hl 0 rfl) ?_
  obtain ⟨g33, h⟩ := gd_r h
  refine k_new E hW (T := TX2) (ty := tyX2) g33 rfl in_X2 tyX2_ok rfl df_X2 kw_203 kw_40 kw_3 ⟨(Nat.le_of_ble_eq_true rfl), (Nat.le_of_ble_eq_true rfl)⟩ dX6_init_49 (fun x34 H ex34 hW => ?_)
  have h := bnd_r ex34 h
  refine lv_dup E.1 E.2.1 dX6_init_52 rfl ?_
  obtain ⟨x35, cx35, h⟩ := obk_r h
  obtain ⟨g36, h⟩ := gd_r h
  refine k_IN (rest := [.ref (G.2.2.2 + x32.1), .ref (G.2.2.2 + q0)]) E hAO hW (m_X2_init cx35) g36 kw_204 wi_X2_init yo_X2_init ⟨rfl, rfl⟩ ⟨(Nat.le_of_ble_eq_true rfl), (Nat.le_of_ble_eq_true rfl)⟩ (lv_size hl) (Nat.le_of_ble_eq_true rfl) ⟨(Nat.le_of_ble_eq_true rfl), (Nat.le_of_ble_eq_true rfl)⟩ dX6_init_53 (fun H locs hW => ?_)
  obtain ⟨g37, h⟩ := gd_r h
  obtain ⟨g38, h⟩ := gd_r h
  obtain ⟨g39, h⟩ := gd_r h
  refine k_putF E hW (k := 4) (T := TX6) (n := 6) (ty := tyX6 4) hin0 g37 g38 g39 rfl in_X6 (by decide) rfl rfl tyX6_ok nmX6 ⟨rfl, rfl, rfl, rfl⟩ rfl (by decide +kernel) ⟨fun _ => rfl, fun _ => rfl⟩ kw_209 dX6_init_56 (fun x40 H locs ex40 hW => ?_)
  have h := bnd_r ex40 h
  refine lv_aload_n E.1 E.2.1 dX6_init_59 rfl (lv_at hl 0 rfl) ?_
  refine lv_iconst (v := (-1 : Int32)) E.1 E.2.1 dX6_init_60 (by decide) ?_
  obtain ⟨g41, h⟩ := gd_r h
  obtain ⟨g42, h⟩ := gd_r h
  refine k_putI E hW (k := 5) (T := TX6) (n := 6) g41 g42 rfl in_X6 (by decide) rfl rfl tyX6_ok nmX6 ⟨rfl, rfl, rfl, rfl⟩ kw_210 dX6_init_61 (fun x43 H locs ex43 hW => ?_)
  have h := bnd_r ex43 h
  exact k_ret E hW hr hlk h (Nat.le_of_ble_eq_true rfl) (Nat.le_of_ble_eq_true rfl) dX6_init_64
set_option maxHeartbeats 4000000 in
set_option maxRecDepth 100000 in
theorem m_X7_init {l : Launch} {G : GP} {sz q0 : Nat} {x x0 : Sg} (h : f_X7_init q0 x = some x0) : Met l yX7_init [.code yX7_init cX7_init 1 none] ({ frames := 1, cells := 52, slots := 2171, locals := 24 } : Room) (va_Pc [Value.ref (G.2.2.2 + q0)] (PreK G skR sz x)) (QO (PoK G skR x0) (Aw G.2.2.2 skR.1 sz) none) 52 2171 (Aw G.2.2.2 skR.1 sz) := by
  refine mkMetK (by decide +kernel) (Nat.le_of_ble_eq_true rfl) skR_ok ?_
  intro p e s m below meth c ls E hAO hW hl hr hlk hin0
  have hl : lv_has ls 1 [(0, .ref (G.2.2.2 + q0))] := hl
  generalize Aw G.2.2.2 skR.1 s.heap.size = A0 at E hW ⊢
  generalize ([Value.ref (G.2.2.2 + q0)] : List Value).toArray = args
  unfold f_X7_init at h
  refine lv_aload_n E.1 E.2.1 dX7_init_0 rfl (lv_at hl 0 rfl) ?_
  refine k_obj E (lv_size hl) kw_904 kw_30 kw_31 ⟨(Nat.le_of_ble_eq_true rfl), (Nat.le_of_ble_eq_true rfl)⟩ dX7_init_1 ?_
  refine lv_aload_n E.1 E.2.1 dX7_init_4 rfl (lv_at hl 0 rfl) ?_
  refine lv_sipush (v := (700 : Int32)) E.1 E.2.1 dX7_init_5 (by decide) ?_
  obtain ⟨g1, h⟩ := gd_r h
  refine k_newI E hW g1 (by decide) rfl (Nat.le_of_ble_eq_true rfl) ⟨(Nat.le_of_ble_eq_true rfl), (Nat.le_of_ble_eq_true rfl)⟩ dX7_init_8 (fun x2 H ex2 hW => ?_)
  have h := bnd_r ex2 h
  obtain ⟨g3, h⟩ := gd_r h
  obtain ⟨g4, h⟩ := gd_r h
  obtain ⟨g5, h⟩ := gd_r h
  refine k_putF E hW (k := 1) (T := TX7) (n := 30) (ty := tyX7 1) hin0 g3 g4 g5 rfl in_X7 (by decide) rfl rfl tyX7_ok nmX7 ⟨rfl, rfl, rfl, rfl⟩ rfl (by decide +kernel) ⟨fun _ => rfl, fun _ => rfl⟩ kw_910 dX7_init_10 (fun x6 H locs ex6 hW => ?_)
  have h := bnd_r ex6 h
  refine lv_aload_n E.1 E.2.1 dX7_init_13 rfl (lv_at hl 0 rfl) ?_
  refine lv_iconst (v := (-1 : Int32)) E.1 E.2.1 dX7_init_14 (by decide) ?_
  obtain ⟨g7, h⟩ := gd_r h
  obtain ⟨g8, h⟩ := gd_r h
  refine k_putI E hW (k := 7) (T := TX7) (n := 30) g7 g8 rfl in_X7 (by decide) rfl rfl tyX7_ok nmX7 ⟨rfl, rfl, rfl, rfl⟩ kw_916 dX7_init_15 (fun x9 H locs ex9 hW => ?_)
  have h := bnd_r ex9 h
  refine lv_aload_n E.1 E.2.1 dX7_init_18 rfl (lv_at hl 0 rfl) ?_
  refine lv_bipush (v := (97 : Int32)) E.1 E.2.1 dX7_init_19 (by decide) ?_
  obtain ⟨g10, h⟩ := gd_r h
  refine k_newI E hW g10 (by decide) rfl (Nat.le_of_ble_eq_true rfl) ⟨(Nat.le_of_ble_eq_true rfl), (Nat.le_of_ble_eq_true rfl)⟩ dX7_init_21 (fun x11 H ex11 hW => ?_)
  have h := bnd_r ex11 h
  obtain ⟨g12, h⟩ := gd_r h
  obtain ⟨g13, h⟩ := gd_r h
  obtain ⟨g14, h⟩ := gd_r h
  refine k_putF E hW (k := 8) (T := TX7) (n := 30) (ty := tyX7 8) hin0 g12 g13 g14 rfl in_X7 (by decide) rfl rfl tyX7_ok nmX7 ⟨rfl, rfl, rfl, rfl⟩ rfl (by decide +kernel) ⟨fun _ => rfl, fun _ => rfl⟩ kw_917 dX7_init_23 (fun x15 H locs ex15 hW => ?_)
  have h := bnd_r ex15 h
  refine lv_aload_n E.1 E.2.1 dX7_init_26 rfl (lv_at hl 0 rfl) ?_
  refine lv_bipush (v := (97 : Int32)) E.1 E.2.1 dX7_init_27 (by decide) ?_
  obtain ⟨g16, h⟩ := gd_r h
  refine k_newI E hW g16 (by decide) rfl (Nat.le_of_ble_eq_true rfl) ⟨(Nat.le_of_ble_eq_true rfl), (Nat.le_of_ble_eq_true rfl)⟩ dX7_init_29 (fun x17 H ex17 hW => ?_)
  have h := bnd_r ex17 h
  obtain ⟨g18, h⟩ := gd_r h
  obtain ⟨g19, h⟩ := gd_r h
  obtain ⟨g20, h⟩ := gd_r h
  refine k_putF E hW (k := 9) (T := TX7) (n := 30) (ty := tyX7 9) hin0 g18 g19 g20 rfl in_X7 (by decide) rfl rfl tyX7_ok nmX7 ⟨rfl, rfl, rfl, rfl⟩ rfl (by decide +kernel) ⟨fun _ => rfl, fun _ => rfl⟩ kw_918 dX7_init_31 (fun x21 H locs ex21 hW => ?_)
  have h := bnd_r ex21 h
  refine lv_aload_n E.1 E.2.1 dX7_init_34 rfl (lv_at hl 0 rfl) ?_
  refine lv_bipush (v := (8 : Int32)) E.1 E.2.1 dX7_init_35 (by decide) ?_
  refine lv_bipush (v := (97 : Int32)) E.1 E.2.1 dX7_init_37 (by decide) ?_
  obtain ⟨g22, h⟩ := gd_r h
  obtain ⟨g23, h⟩ := gd_r h
  obtain ⟨g24, h⟩ := gd_r h
  refine k_mna (t := 0) (ty := .int) E hAO hW g22 g23 g24 (Or.inl ⟨rfl, rfl⟩) (by decide +kernel) kw_905 (by decide) (by decide) rfl rfl (Nat.le_of_ble_eq_true rfl) (Nat.le_of_ble_eq_true rfl) (Nat.le_of_ble_eq_true rfl) ⟨(Nat.le_of_ble_eq_true rfl), (Nat.le_of_ble_eq_true rfl)⟩ dX7_init_39 (fun x25 H ex25 hW => ?_)
  have h := bnd_r ex25 h
  obtain ⟨g26, h⟩ := gd_r h
  obtain ⟨g27, h⟩ := gd_r h
  obtain ⟨g28, h⟩ := gd_r h
  refine k_putF E hW (k := 10) (T := TX7) (n := 30) (ty := tyX7 10) hin0 g26 g27 g28 rfl in_X7 (by decide) rfl rfl tyX7_ok nmX7 ⟨rfl, rfl, rfl, rfl⟩ rfl (by decide +kernel) ⟨fun _ => rfl, fun _ => rfl⟩ kw_919 dX7_init_43 (fun x29 H locs ex29 hW => ?_)
  have h := bnd_r ex29 h
  refine lv_aload_n E.1 E.2.1 dX7_init_46 rfl (lv_at hl 0 rfl) ?_
  refine lv_bipush (v := (49 : Int32)) E.1 E.2.1 dX7_init_47 (by decide) ?_
  obtain ⟨g30, h⟩ := gd_r h
  refine k_newJ E hW g30 (by decide) rfl (Nat.le_of_ble_eq_true rfl) ⟨(Nat.le_of_ble_eq_true rfl), (Nat.le_of_ble_eq_true rfl)⟩ dX7_init_49 (fun x31 H ex31 hW => ?_)
  have h := bnd_r ex31 h
  obtain ⟨g32, h⟩ := gd_r h
  obtain ⟨g33, h⟩ := gd_r h
  obtain ⟨g34, h⟩ := gd_r h
  refine k_putF E hW (k := 12) (T := TX7) (n := 30) (ty := tyX7 12) hin0 g32 g33 g34 rfl in_X7 (by decide) rfl rfl tyX7_ok nmX7 ⟨rfl, rfl, rfl, rfl⟩ rfl (by decide +kernel) ⟨fun _ => rfl, fun _ => rfl⟩ kw_921 dX7_init_51 (fun x35 H locs ex35 hW => ?_)
  have h := bnd_r ex35 h
  refine lv_aload_n E.1 E.2.1 dX7_init_54 rfl (lv_at hl 0 rfl) ?_
  refine lv_bipush (v := (12 : Int32)) E.1 E.2.1 dX7_init_55 (by decide) ?_
  obtain ⟨g36, h⟩ := gd_r h
  refine k_newJ E hW g36 (by decide) rfl (Nat.le_of_ble_eq_true rfl) ⟨(Nat.le_of_ble_eq_true rfl), (Nat.le_of_ble_eq_true rfl)⟩ dX7_init_57 (fun x37 H ex37 hW => ?_)
  have h := bnd_r ex37 h
  obtain ⟨g38, h⟩ := gd_r h
  obtain ⟨g39, h⟩ := gd_r h
  obtain ⟨g40, h⟩ := gd_r h
  refine k_putF E hW (k := 13) (T := TX7) (n := 30) (ty := tyX7 13) hin0 g38 g39 g40 rfl in_X7 (by decide) rfl rfl tyX7_ok nmX7 ⟨rfl, rfl, rfl, rfl⟩ rfl (by decide +kernel) ⟨fun _ => rfl, fun _ => rfl⟩ kw_922 dX7_init_59 (fun x41 H locs ex41 hW => ?_)
  have h := bnd_r ex41 h
  refine lv_aload_n E.1 E.2.1 dX7_init_62 rfl (lv_at hl 0 rfl) ?_
  refine lv_bipush (v := (12 : Int32)) E.1 E.2.1 dX7_init_63 (by decide) ?_
  obtain ⟨g42, h⟩ := gd_r h
  refine k_newJ E hW g42 (by decide) rfl (Nat.le_of_ble_eq_true rfl) ⟨(Nat.le_of_ble_eq_true rfl), (Nat.le_of_ble_eq_true rfl)⟩ dX7_init_65 (fun x43 H ex43 hW => ?_)
  have h := bnd_r ex43 h
  obtain ⟨g44, h⟩ := gd_r h
  obtain ⟨g45, h⟩ := gd_r h
  obtain ⟨g46, h⟩ := gd_r h
  refine k_putF E hW (k := 14) (T := TX7) (n := 30) (ty := tyX7 14) hin0 g44 g45 g46 rfl in_X7 (by decide) rfl rfl tyX7_ok nmX7 ⟨rfl, rfl, rfl, rfl⟩ rfl (by decide +kernel) ⟨fun _ => rfl, fun _ => rfl⟩ kw_923 dX7_init_67 (fun x47 H locs ex47 hW => ?_)
  have h := bnd_r ex47 h
  refine lv_aload_n E.1 E.2.1 dX7_init_70 rfl (lv_at hl 0 rfl) ?_
  refine lv_bipush (v := (12 : Int32)) E.1 E.2.1 dX7_init_71 (by decide) ?_
  obtain ⟨g48, h⟩ := gd_r h
  refine k_newJ E hW g48 (by decide) rfl (Nat.le_of_ble_eq_true rfl) ⟨(Nat.le_of_ble_eq_true rfl), (Nat.le_of_ble_eq_true rfl)⟩ dX7_init_73 (fun x49 H ex49 hW => ?_)
  have h := bnd_r ex49 h
  obtain ⟨g50, h⟩ := gd_r h
  obtain ⟨g51, h⟩ := gd_r h
  obtain ⟨g52, h⟩ := gd_r h
  refine k_putF E hW (k := 15) (T := TX7) (n := 30) (ty := tyX7 15) hin0 g50 g51 g52 rfl in_X7 (by decide) rfl rfl tyX7_ok nmX7 ⟨rfl, rfl, rfl, rfl⟩ rfl (by decide +kernel) ⟨fun _ => rfl, fun _ => rfl⟩ kw_924 dX7_init_75 (fun x53 H locs ex53 hW => ?_)
  have h := bnd_r ex53 h
  refine lv_aload_n E.1 E.2.1 dX7_init_78 rfl (lv_at hl 0 rfl) ?_
  refine lv_bipush (v := (12 : Int32)) E.1 E.2.1 dX7_init_79 (by decide) ?_
  obtain ⟨g54, h⟩ := gd_r h
  refine k_newJ E hW g54 (by decide) rfl (Nat.le_of_ble_eq_true rfl) ⟨(Nat.le_of_ble_eq_true rfl), (Nat.le_of_ble_eq_true rfl)⟩ dX7_init_81 (fun x55 H ex55 hW => ?_)
  have h := bnd_r ex55 h
  obtain ⟨g56, h⟩ := gd_r h
  obtain ⟨g57, h⟩ := gd_r h
  obtain ⟨g58, h⟩ := gd_r h
  refine k_putF E hW (k := 16) (T := TX7) (n := 30) (ty := tyX7 16) hin0 g56 g57 g58 rfl in_X7 (by decide) rfl rfl tyX7_ok nmX7 ⟨rfl, rfl, rfl, rfl⟩ rfl (by decide +kernel) ⟨fun _ => rfl, fun _ => rfl⟩ kw_925 dX7_init_83 (fun x59 H locs ex59 hW => ?_)
  have h := bnd_r ex59 h
  refine lv_aload_n E.1 E.2.1 dX7_init_86 rfl (lv_at hl 0 rfl) ?_
  refine lv_bipush (v := (6 : Int32)) E.1 E.2.1 dX7_init_87 (by decide) ?_
  refine lv_bipush (v := (12 : Int32)) E.1 E.2.1 dX7_init_89 (by decide) ?_
  obtain ⟨g60, h⟩ := gd_r h
  obtain ⟨g61, h⟩ := gd_r h
  obtain ⟨g62, h⟩ := gd_r h
  refine k_mna (t := 1) (ty := .long) E hAO hW g60 g61 g62 (Or.inr ⟨rfl, rfl⟩) (by decide +kernel) kw_907 (by decide) (by decide) rfl rfl (Nat.le_of_ble_eq_true rfl) (Nat.le_of_ble_eq_true rfl) (Nat.le_of_ble_eq_true rfl) ⟨(Nat.le_of_ble_eq_true rfl), (Nat.le_of_ble_eq_true rfl)⟩ dX7_init_91 (fun x63 H ex63 hW => ?_)
  have h := bnd_r ex63 h
  obtain ⟨g64, h⟩ := gd_r h
  obtain ⟨g65, h⟩ := gd_r h
  obtain ⟨g66, h⟩ := gd_r h
  refine k_putF E hW (k := 18) (T := TX7) (n := 30) (ty := tyX7 18) hin0 g64 g65 g66 rfl in_X7 (by decide) rfl rfl tyX7_ok nmX7 ⟨rfl, rfl, rfl, rfl⟩ rfl (by decide +kernel) ⟨fun _ => rfl, fun _ => rfl⟩ kw_927 dX7_init_95 (fun x67 H locs ex67 hW => ?_)
  have h := bnd_r ex67 h
  refine lv_aload_n E.1 E.2.1 dX7_init_98 rfl (lv_at hl 0 rfl) ?_
  refine lv_bipush (v := (6 : Int32)) E.1 E.2.1 dX7_init_99 (by decide) ?_
  refine lv_bipush (v := (12 : Int32)) E.1 E.2.1 dX7_init_101 (by decide) ?_
  obtain ⟨g68, h⟩ := gd_r h
  obtain ⟨g69, h⟩ := gd_r h
  obtain ⟨g70, h⟩ := gd_r h
  refine k_mna (t := 1) (ty := .long) E hAO hW g68 g69 g70 (Or.inr ⟨rfl, rfl⟩) (by decide +kernel) kw_907 (by decide) (by decide) rfl rfl (Nat.le_of_ble_eq_true rfl) (Nat.le_of_ble_eq_true rfl) (Nat.le_of_ble_eq_true rfl) ⟨(Nat.le_of_ble_eq_true rfl), (Nat.le_of_ble_eq_true rfl)⟩ dX7_init_103 (fun x71 H ex71 hW => ?_)
  have h := bnd_r ex71 h
  obtain ⟨g72, h⟩ := gd_r h
  obtain ⟨g73, h⟩ := gd_r h
  obtain ⟨g74, h⟩ := gd_r h
  refine k_putF E hW (k := 19) (T := TX7) (n := 30) (ty := tyX7 19) hin0 g72 g73 g74 rfl in_X7 (by decide) rfl rfl tyX7_ok nmX7 ⟨rfl, rfl, rfl, rfl⟩ rfl (by decide +kernel) ⟨fun _ => rfl, fun _ => rfl⟩ kw_928 dX7_init_107 (fun x75 H locs ex75 hW => ?_)
  have h := bnd_r ex75 h
  refine lv_aload_n E.1 E.2.1 dX7_init_110 rfl (lv_at hl 0 rfl) ?_
  refine lv_bipush (v := (6 : Int32)) E.1 E.2.1 dX7_init_111 (by decide) ?_
  refine lv_bipush (v := (12 : Int32)) E.1 E.2.1 dX7_init_113 (by decide) ?_
  obtain ⟨g76, h⟩ := gd_r h
  obtain ⟨g77, h⟩ := gd_r h
  obtain ⟨g78, h⟩ := gd_r h
  refine k_mna (t := 1) (ty := .long) E hAO hW g76 g77 g78 (Or.inr ⟨rfl, rfl⟩) (by decide +kernel) kw_907 (by decide) (by decide) rfl rfl (Nat.le_of_ble_eq_true rfl) (Nat.le_of_ble_eq_true rfl) (Nat.le_of_ble_eq_true rfl) ⟨(Nat.le_of_ble_eq_true rfl), (Nat.le_of_ble_eq_true rfl)⟩ dX7_init_115 (fun x79 H ex79 hW => ?_)
  have h := bnd_r ex79 h
  obtain ⟨g80, h⟩ := gd_r h
  obtain ⟨g81, h⟩ := gd_r h
  obtain ⟨g82, h⟩ := gd_r h
  refine k_putF E hW (k := 20) (T := TX7) (n := 30) (ty := tyX7 20) hin0 g80 g81 g82 rfl in_X7 (by decide) rfl rfl tyX7_ok nmX7 ⟨rfl, rfl, rfl, rfl⟩ rfl (by decide +kernel) ⟨fun _ => rfl, fun _ => rfl⟩ kw_929 dX7_init_119 (fun x83 H locs ex83 hW => ?_)
  have h := bnd_r ex83 h
  refine lv_aload_n E.1 E.2.1 dX7_init_122 rfl (lv_at hl 0 rfl) ?_
  refine lv_bipush (v := (6 : Int32)) E.1 E.2.1 dX7_init_123 (by decide) ?_
  refine lv_bipush (v := (12 : Int32)) E.1 E.2.1 dX7_init_125 (by decide) ?_
  obtain ⟨g84, h⟩ := gd_r h
  obtain ⟨g85, h⟩ := gd_r h
  obtain ⟨g86, h⟩ := gd_r h
  refine k_mna (t := 1) (ty := .long) E hAO hW g84 g85 g86 (Or.inr ⟨rfl, rfl⟩) (by decide +kernel) kw_907 (by decide) (by decide) rfl rfl (Nat.le_of_ble_eq_true rfl) (Nat.le_of_ble_eq_true rfl) (Nat.le_of_ble_eq_true rfl) ⟨(Nat.le_of_ble_eq_true rfl), (Nat.le_of_ble_eq_true rfl)⟩ dX7_init_127 (fun x87 H ex87 hW => ?_)
  have h := bnd_r ex87 h
  obtain ⟨g88, h⟩ := gd_r h
  obtain ⟨g89, h⟩ := gd_r h
  obtain ⟨g90, h⟩ := gd_r h
  refine k_putF E hW (k := 21) (T := TX7) (n := 30) (ty := tyX7 21) hin0 g88 g89 g90 rfl in_X7 (by decide) rfl rfl tyX7_ok nmX7 ⟨rfl, rfl, rfl, rfl⟩ rfl (by decide +kernel) ⟨fun _ => rfl, fun _ => rfl⟩ kw_930 dX7_init_131 (fun x91 H locs ex91 hW => ?_)
  have h := bnd_r ex91 h
  refine lv_aload_n E.1 E.2.1 dX7_init_134 rfl (lv_at hl 0 rfl) ?_
  refine lv_bipush (v := (12 : Int32)) E.1 E.2.1 dX7_init_135 (by decide) ?_
  obtain ⟨g92, h⟩ := gd_r h
  refine k_newJ E hW g92 (by decide) rfl (Nat.le_of_ble_eq_true rfl) ⟨(Nat.le_of_ble_eq_true rfl), (Nat.le_of_ble_eq_true rfl)⟩ dX7_init_137 (fun x93 H ex93 hW => ?_)
  have h := bnd_r ex93 h
  obtain ⟨g94, h⟩ := gd_r h
  obtain ⟨g95, h⟩ := gd_r h
  obtain ⟨g96, h⟩ := gd_r h
  refine k_putF E hW (k := 22) (T := TX7) (n := 30) (ty := tyX7 22) hin0 g94 g95 g96 rfl in_X7 (by decide) rfl rfl tyX7_ok nmX7 ⟨rfl, rfl, rfl, rfl⟩ rfl (by decide +kernel) ⟨fun _ => rfl, fun _ => rfl⟩ kw_931 dX7_init_139 (fun x97 H locs ex97 hW => ?_)
  have h := bnd_r ex97 h
  refine lv_aload_n E.1 E.2.1 dX7_init_142 rfl (lv_at hl 0 rfl) ?_
  refine lv_bipush (v := (12 : Int32)) E.1 E.2.1 dX7_init_143 (by decide) ?_
  obtain ⟨g98, h⟩ := gd_r h
  refine k_newJ E hW g98 (by decide) rfl (Nat.le_of_ble_eq_true rfl) ⟨(Nat.le_of_ble_eq_true rfl), (Nat.le_of_ble_eq_true rfl)⟩ dX7_init_145 (fun x99 H ex99 hW => ?_)
  have h := bnd_r ex99 h
  obtain ⟨g100, h⟩ := gd_r h
  obtain ⟨g101, h⟩ := gd_r h
  obtain ⟨g102, h⟩ := gd_r h
  refine k_putF E hW (k := 24) (T := TX7) (n := 30) (ty := tyX7 24) hin0 g100 g101 g102 rfl in_X7 (by decide) rfl rfl tyX7_ok nmX7 ⟨rfl, rfl, rfl, rfl⟩ rfl (by decide +kernel) ⟨fun _ => rfl, fun _ => rfl⟩ kw_933 dX7_init_147 (fun x103 H locs ex103 hW => ?_)
  have h := bnd_r ex103 h
  refine lv_aload_n E.1 E.2.1 dX7_init_150 rfl (lv_at hl 0 rfl) ?_
  refine lv_bipush (v := (12 : Int32)) E.1 E.2.1 dX7_init_151 (by decide) ?_
  obtain ⟨g104, h⟩ := gd_r h
  refine k_newJ E hW g104 (by decide) rfl (Nat.le_of_ble_eq_true rfl) ⟨(Nat.le_of_ble_eq_true rfl), (Nat.le_of_ble_eq_true rfl)⟩ dX7_init_153 (fun x105 H ex105 hW => ?_)
  have h := bnd_r ex105 h
  obtain ⟨g106, h⟩ := gd_r h
  obtain ⟨g107, h⟩ := gd_r h
  obtain ⟨g108, h⟩ := gd_r h
  refine k_putF E hW (k := 25) (T := TX7) (n := 30) (ty := tyX7 25) hin0 g106 g107 g108 rfl in_X7 (by decide) rfl rfl tyX7_ok nmX7 ⟨rfl, rfl, rfl, rfl⟩ rfl (by decide +kernel) ⟨fun _ => rfl, fun _ => rfl⟩ kw_934 dX7_init_155 (fun x109 H locs ex109 hW => ?_)
  have h := bnd_r ex109 h
  refine lv_aload_n E.1 E.2.1 dX7_init_158 rfl (lv_at hl 0 rfl) ?_
  refine lv_bipush (v := (12 : Int32)) E.1 E.2.1 dX7_init_159 (by decide) ?_
  obtain ⟨g110, h⟩ := gd_r h
  refine k_newJ E hW g110 (by decide) rfl (Nat.le_of_ble_eq_true rfl) ⟨(Nat.le_of_ble_eq_true rfl), (Nat.le_of_ble_eq_true rfl)⟩ dX7_init_161 (fun x111 H ex111 hW => ?_)
  have h := bnd_r ex111 h
  obtain ⟨g112, h⟩ := gd_r h
  obtain ⟨g113, h⟩ := gd_r h
  obtain ⟨g114, h⟩ := gd_r h
  refine k_putF E hW (k := 26) (T := TX7) (n := 30) (ty := tyX7 26) hin0 g112 g113 g114 rfl in_X7 (by decide) rfl rfl tyX7_ok nmX7 ⟨rfl, rfl, rfl, rfl⟩ rfl (by decide +kernel) ⟨fun _ => rfl, fun _ => rfl⟩ kw_935 dX7_init_163 (fun x115 H locs ex115 hW => ?_)
  have h := bnd_r ex115 h
  refine lv_aload_n E.1 E.2.1 dX7_init_166 rfl (lv_at hl 0 rfl) ?_
  refine lv_bipush (v := (12 : Int32)) E.1 E.2.1 dX7_init_167 (by decide) ?_
  obtain ⟨g116, h⟩ := gd_r h
  refine k_newJ E hW g116 (by decide) rfl (Nat.le_of_ble_eq_true rfl) ⟨(Nat.le_of_ble_eq_true rfl), (Nat.le_of_ble_eq_true rfl)⟩ dX7_init_169 (fun x117 H ex117 hW => ?_)
  have h := bnd_r ex117 h
  obtain ⟨g118, h⟩ := gd_r h
  obtain ⟨g119, h⟩ := gd_r h
  obtain ⟨g120, h⟩ := gd_r h
  refine k_putF E hW (k := 27) (T := TX7) (n := 30) (ty := tyX7 27) hin0 g118 g119 g120 rfl in_X7 (by decide) rfl rfl tyX7_ok nmX7 ⟨rfl, rfl, rfl, rfl⟩ rfl (by decide +kernel) ⟨fun _ => rfl, fun _ => rfl⟩ kw_936 dX7_init_171 (fun x121 H locs ex121 hW => ?_)
  have h := bnd_r ex121 h
  refine lv_aload_n E.1 E.2.1 dX7_init_174 rfl (lv_at hl 0 rfl) ?_
  refine lv_bipush (v := (12 : Int32)) E.1 E.2.1 dX7_init_175 (by decide) ?_
  obtain ⟨g122, h⟩ := gd_r h
  refine k_newJ E hW g122 (by decide) rfl (Nat.le_of_ble_eq_true rfl) ⟨(Nat.le_of_ble_eq_true rfl), (Nat.le_of_ble_eq_true rfl)⟩ dX7_init_177 (fun x123 H ex123 hW => ?_)
  have h := bnd_r ex123 h
  obtain ⟨g124, h⟩ := gd_r h
  obtain ⟨g125, h⟩ := gd_r h
  obtain ⟨g126, h⟩ := gd_r h
  refine k_putF E hW (k := 28) (T := TX7) (n := 30) (ty := tyX7 28) hin0 g124 g125 g126 rfl in_X7 (by decide) rfl rfl tyX7_ok nmX7 ⟨rfl, rfl, rfl, rfl⟩ rfl (by decide +kernel) ⟨fun _ => rfl, fun _ => rfl⟩ kw_937 dX7_init_179 (fun x127 H locs ex127 hW => ?_)
  have h := bnd_r ex127 h
  refine lv_aload_n E.1 E.2.1 dX7_init_182 rfl (lv_at hl 0 rfl) ?_
  refine lv_bipush (v := (12 : Int32)) E.1 E.2.1 dX7_init_183 (by decide) ?_
  obtain ⟨g128, h⟩ := gd_r h
  refine k_newJ E hW g128 (by decide) rfl (Nat.le_of_ble_eq_true rfl) ⟨(Nat.le_of_ble_eq_true rfl), (Nat.le_of_ble_eq_true rfl)⟩ dX7_init_185 (fun x129 H ex129 hW => ?_)
  have h := bnd_r ex129 h
  obtain ⟨g130, h⟩ := gd_r h
  obtain ⟨g131, h⟩ := gd_r h
  obtain ⟨g132, h⟩ := gd_r h
  refine k_putF E hW (k := 29) (T := TX7) (n := 30) (ty := tyX7 29) hin0 g130 g131 g132 rfl in_X7 (by decide) rfl rfl tyX7_ok nmX7 ⟨rfl, rfl, rfl, rfl⟩ rfl (by decide +kernel) ⟨fun _ => rfl, fun _ => rfl⟩ kw_938 dX7_init_187 (fun x133 H locs ex133 hW => ?_)
  have h := bnd_r ex133 h
  exact k_ret E hW hr hlk h (Nat.le_of_ble_eq_true rfl) (Nat.le_of_ble_eq_true rfl) dX7_init_190
