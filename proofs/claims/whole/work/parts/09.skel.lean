/-! WHAT EACH PLACE IS: the class, the reference -/
set_option maxRecDepth 20000 in
def kCL : List (Nat × Nat) := [(0, 6), (0, 3), (3, 8), (0, 2), (2, 10), (0, 2), (2, 10), (0, 2), (2, 10), (0, 2), (2, 10), (0, 2), (2, 10), (0, 2), (2, 10), (0, 2), (2, 10), (0, 2), (2, 10), (0, 1), (4, 8), (0, 3), (3, 8), (0, 2), (2, 10), (0, 2), (2, 10), (0, 2), (2, 10), (0, 2), (2, 10), (0, 2), (2, 10), (0, 2), (2, 10), (0, 2), (2, 10), (0, 2), (2, 10), (0, 3), (3, 8), (0, 2), (2, 10), (0, 2), (2, 10), (0, 2), (2, 10), (0, 2), (2, 10), (0, 2), (2, 10), (0, 2), (2, 10), (0, 2), (2, 10), (0, 2), (2, 10), (0, 3), (3, 8), (0, 2), (2, 10), (0, 2), (2, 10), (0, 2), (2, 10), (0, 2), (2, 10), (0, 2), (2, 10), (0, 2), (2, 10), (0, 2), (2, 10), (0, 2), (2, 10), (0, 3), (3, 8), (0, 2), (2, 10), (0, 2), (2, 10), (0, 2), (2, 10), (0, 2), (2, 10), (0, 2), (2, 10), (0, 2), (2, 10), (0, 2), (2, 10), (0, 2), (2, 10), (0, 3), (3, 8), (0, 2), (2, 10), (0, 2), (2, 10), (0, 2), (2, 10), (0, 2), (2, 10), (0, 2), (2, 10), (0, 2), (2, 10), (0, 2), (2, 10), (0, 2), (2, 10), (0, 3), (3, 8), (0, 2), (2, 10), (0, 2), (2, 10), (0, 2), (2, 10), (0, 2), (2, 10), (0, 2), (2, 10), (0, 2), (2, 10), (0, 2), (2, 10), (0, 2), (2, 10), (0, 3), (3, 8), (0, 2), (2, 10), (0, 2), (2, 10), (0, 2), (2, 10), (0, 2), (2, 10), (0, 2), (2, 10), (0, 2), (2, 10), (0, 2), (2, 10), (0, 2), (2, 10), (0, 3), (3, 8), (0, 2), (2, 10), (0, 2), (2, 10), (0, 2), (2, 10), (0, 2), (2, 10), (0, 2), (2, 10), (0, 2), (2, 10), (0, 2), (2, 10), (0, 2), (2, 10), (0, 0), (2, 49), (0, 2), (2, 10), (0, 2), (2, 10), (0, 2), (2, 10), (0, 2), (2, 10), (0, 2), (2, 10), (0, 4), (0, 5), (1, 700), (1, 701), (1, 701), (0, 3), (3, 8), (0, 2), (2, 10), (0, 2), (2, 10), (0, 2), (2, 10), (0, 2), (2, 10), (0, 2), (2, 10), (0, 2), (2, 10), (0, 2), (2, 10), (0, 2), (2, 10), (0, 0), (2, 49), (0, 2), (2, 10), (0, 2), (2, 10), (0, 2), (2, 10), (0, 2), (2, 10), (0, 2), (2, 10), (3, 5), (3, 5), (3, 5), (3, 5), (0, 2), (2, 10), (0, 2), (2, 10), (0, 2), (2, 10), (0, 2), (2, 10), (0, 2), (2, 10), (0, 2), (2, 10), (0, 2), (2, 10), (0, 2), (2, 10), (0, 2), (2, 10), (0, 2), (2, 10), (0, 2), (2, 10), (0, 2), (2, 10), (0, 2), (2, 10), (0, 2), (2, 10), (0, 2), (2, 10), (0, 2), (2, 10), (0, 2), (2, 10), (0, 2), (2, 10), (0, 2), (2, 10), (0, 2), (2, 10), (0, 2), (2, 10)]
set_option maxRecDepth 20000 in
def rCL : List (List Nat) := [[1, 19, 165, 177, 256, 0], [2, 0], [3, 5, 7, 9, 11, 13, 15, 17], [4, 0, 0], [], [6, 0, 0], [], [8, 0, 0], [], [10, 0, 0], [], [12, 0, 0], [], [14, 0, 0], [], [16, 0, 0], [], [18, 0, 0], [], [20, 0, 0], [21, 39, 57, 75, 93, 111, 129, 147], [22, 0], [23, 25, 27, 29, 31, 33, 35, 37], [24, 0, 0], [], [26, 0, 0], [], [28, 0, 0], [], [30, 0, 0], [], [32, 0, 0], [], [34, 0, 0], [], [36, 0, 0], [], [38, 0, 0], [], [40, 0], [41, 43, 45, 47, 49, 51, 53, 55], [42, 0, 0], [], [44, 0, 0], [], [46, 0, 0], [], [48, 0, 0], [], [50, 0, 0], [], [52, 0, 0], [], [54, 0, 0], [], [56, 0, 0], [], [58, 0], [59, 61, 63, 65, 67, 69, 71, 73], [60, 0, 0], [], [62, 0, 0], [], [64, 0, 0], [], [66, 0, 0], [], [68, 0, 0], [], [70, 0, 0], [], [72, 0, 0], [], [74, 0, 0], [], [76, 0], [77, 79, 81, 83, 85, 87, 89, 91], [78, 0, 0], [], [80, 0, 0], [], [82, 0, 0], [], [84, 0, 0], [], [86, 0, 0], [], [88, 0, 0], [], [90, 0, 0], [], [92, 0, 0], [], [94, 0], [95, 97, 99, 101, 103, 105, 107, 109], [96, 0, 0], [], [98, 0, 0], [], [100, 0, 0], [], [102, 0, 0], [], [104, 0, 0], [], [106, 0, 0], [], [108, 0, 0], [], [110, 0, 0], [], [112, 0], [113, 115, 117, 119, 121, 123, 125, 127], [114, 0, 0], [], [116, 0, 0], [], [118, 0, 0], [], [120, 0, 0], [], [122, 0, 0], [], [124, 0, 0], [], [126, 0, 0], [], [128, 0, 0], [], [130, 0], [131, 133, 135, 137, 139, 141, 143, 145], [132, 0, 0], [], [134, 0, 0], [], [136, 0, 0], [], [138, 0, 0], [], [140, 0, 0], [], [142, 0, 0], [], [144, 0, 0], [], [146, 0, 0], [], [148, 0], [149, 151, 153, 155, 157, 159, 161, 163], [150, 0, 0], [], [152, 0, 0], [], [154, 0, 0], [], [156, 0, 0], [], [158, 0, 0], [], [160, 0, 0], [], [162, 0, 0], [], [164, 0, 0], [], [166, 0, 0, 167, 169, 171, 173, 175], [], [168, 0, 0], [], [170, 0, 0], [], [172, 0, 0], [], [174, 0, 0], [], [176, 0, 0], [], [178, 182, 200, 212, 213, 214, 215, 0], [179, 0, 180, 181, 0, 0, 0, 0, 0], [], [], [], [183, 0], [184, 186, 188, 190, 192, 194, 196, 198], [185, 0, 0], [], [187, 0, 0], [], [189, 0, 0], [], [191, 0, 0], [], [193, 0, 0], [], [195, 0, 0], [], [197, 0, 0], [], [199, 0, 0], [], [201, 0, 0, 202, 204, 206, 208, 210], [], [203, 0, 0], [], [205, 0, 0], [], [207, 0, 0], [], [209, 0, 0], [], [211, 0, 0], [], [216, 224, 232, 240, 248], [218, 226, 234, 242, 250], [220, 228, 236, 244, 252], [222, 230, 238, 246, 254], [217, 0, 0], [], [219, 0, 0], [], [221, 0, 0], [], [223, 0, 0], [], [225, 0, 0], [], [227, 0, 0], [], [229, 0, 0], [], [231, 0, 0], [], [233, 0, 0], [], [235, 0, 0], [], [237, 0, 0], [], [239, 0, 0], [], [241, 0, 0], [], [243, 0, 0], [], [245, 0, 0], [], [247, 0, 0], [], [249, 0, 0], [], [251, 0, 0], [], [253, 0, 0], [], [255, 0, 0], [], [257, 0, 0], []]
def kC (q : Nat) : Nat × Nat := kCL.getD q (9, 0)
def rC (q k : Nat) : Nat := (rCL.getD q []).getD k 0
def skC : Sk := (258, kC, rC)
theorem kC_len : kCL.length = 258 := by decide +kernel
theorem skC_ok : SkOK skC := by
  intro q hq
  show (kCL.getD q (9, 0)).1 = 9
  rw [List.getD_eq_getElem?_getD, List.getElem?_eq_none (by rw [kC_len]; exact hq)]
  rfl
set_option maxRecDepth 20000 in
def kRL : List (Nat × Nat) := [(0, 7), (1, 700), (1, 97), (1, 97), (5, 8), (1, 97), (1, 97), (1, 97), (1, 97), (1, 97), (1, 97), (1, 97), (1, 97), (2, 49), (2, 12), (2, 12), (2, 12), (2, 12), (6, 6), (2, 12), (2, 12), (2, 12), (2, 12), (2, 12), (2, 12), (6, 6), (2, 12), (2, 12), (2, 12), (2, 12), (2, 12), (2, 12), (6, 6), (2, 12), (2, 12), (2, 12), (2, 12), (2, 12), (2, 12), (6, 6), (2, 12), (2, 12), (2, 12), (2, 12), (2, 12), (2, 12), (2, 12), (2, 12), (2, 12), (2, 12), (2, 12), (2, 12), (2, 12)]
set_option maxRecDepth 20000 in
def rRL : List (List Nat) := [[0, 1, 0, 0, 0, 0, 0, 0, 2, 3, 4, 0, 13, 14, 15, 16, 17, 0, 18, 25, 32, 39, 46, 0, 47, 48, 49, 50, 51, 52], [], [], [], [5, 6, 7, 8, 9, 10, 11, 12], [], [], [], [], [], [], [], [], [], [], [], [], [], [19, 20, 21, 22, 23, 24], [], [], [], [], [], [], [26, 27, 28, 29, 30, 31], [], [], [], [], [], [], [33, 34, 35, 36, 37, 38], [], [], [], [], [], [], [40, 41, 42, 43, 44, 45], [], [], [], [], [], [], [], [], [], [], [], [], []]
def kR (q : Nat) : Nat × Nat := kRL.getD q (9, 0)
def rR (q k : Nat) : Nat := (rRL.getD q []).getD k 0
def skR : Sk := (53, kR, rR)
theorem kR_len : kRL.length = 53 := by decide +kernel
theorem skR_ok : SkOK skR := by
  intro q hq
  show (kRL.getD q (9, 0)).1 = 9
  rw [List.getD_eq_getElem?_getD, List.getElem?_eq_none (by rw [kR_len]; exact hq)]
  rfl
theorem jr1 {A0 β : Type} {J F : A0 → β} {a0 : A0} {y : β} (e : J = F) (h : J a0 = y) : F a0 = y := by rw [← e]; exact h
theorem jr2 {A0 A1 β : Type} {J F : A0 → A1 → β} {a0 : A0} {a1 : A1} {y : β} (e : J = F) (h : J a0 a1 = y) : F a0 a1 = y := by rw [← e]; exact h
theorem jr3 {A0 A1 A2 β : Type} {J F : A0 → A1 → A2 → β} {a0 : A0} {a1 : A1} {a2 : A2} {y : β} (e : J = F) (h : J a0 a1 a2 = y) : F a0 a1 a2 = y := by rw [← e]; exact h
theorem jr4 {A0 A1 A2 A3 β : Type} {J F : A0 → A1 → A2 → A3 → β} {a0 : A0} {a1 : A1} {a2 : A2} {a3 : A3} {y : β} (e : J = F) (h : J a0 a1 a2 a3 = y) : F a0 a1 a2 a3 = y := by rw [← e]; exact h
theorem jr5 {A0 A1 A2 A3 A4 β : Type} {J F : A0 → A1 → A2 → A3 → A4 → β} {a0 : A0} {a1 : A1} {a2 : A2} {a3 : A3} {a4 : A4} {y : β} (e : J = F) (h : J a0 a1 a2 a3 a4 = y) : F a0 a1 a2 a3 a4 = y := by rw [← e]; exact h
theorem jr6 {A0 A1 A2 A3 A4 A5 β : Type} {J F : A0 → A1 → A2 → A3 → A4 → A5 → β} {a0 : A0} {a1 : A1} {a2 : A2} {a3 : A3} {a4 : A4} {a5 : A5} {y : β} (e : J = F) (h : J a0 a1 a2 a3 a4 a5 = y) : F a0 a1 a2 a3 a4 a5 = y := by rw [← e]; exact h
theorem jr7 {A0 A1 A2 A3 A4 A5 A6 β : Type} {J F : A0 → A1 → A2 → A3 → A4 → A5 → A6 → β} {a0 : A0} {a1 : A1} {a2 : A2} {a3 : A3} {a4 : A4} {a5 : A5} {a6 : A6} {y : β} (e : J = F) (h : J a0 a1 a2 a3 a4 a5 a6 = y) : F a0 a1 a2 a3 a4 a5 a6 = y := by rw [← e]; exact h
theorem jr8 {A0 A1 A2 A3 A4 A5 A6 A7 β : Type} {J F : A0 → A1 → A2 → A3 → A4 → A5 → A6 → A7 → β} {a0 : A0} {a1 : A1} {a2 : A2} {a3 : A3} {a4 : A4} {a5 : A5} {a6 : A6} {a7 : A7} {y : β} (e : J = F) (h : J a0 a1 a2 a3 a4 a5 a6 a7 = y) : F a0 a1 a2 a3 a4 a5 a6 a7 = y := by rw [← e]; exact h
theorem jr9 {A0 A1 A2 A3 A4 A5 A6 A7 A8 β : Type} {J F : A0 → A1 → A2 → A3 → A4 → A5 → A6 → A7 → A8 → β} {a0 : A0} {a1 : A1} {a2 : A2} {a3 : A3} {a4 : A4} {a5 : A5} {a6 : A6} {a7 : A7} {a8 : A8} {y : β} (e : J = F) (h : J a0 a1 a2 a3 a4 a5 a6 a7 a8 = y) : F a0 a1 a2 a3 a4 a5 a6 a7 a8 = y := by rw [← e]; exact h
theorem jr10 {A0 A1 A2 A3 A4 A5 A6 A7 A8 A9 β : Type} {J F : A0 → A1 → A2 → A3 → A4 → A5 → A6 → A7 → A8 → A9 → β} {a0 : A0} {a1 : A1} {a2 : A2} {a3 : A3} {a4 : A4} {a5 : A5} {a6 : A6} {a7 : A7} {a8 : A8} {a9 : A9} {y : β} (e : J = F) (h : J a0 a1 a2 a3 a4 a5 a6 a7 a8 a9 = y) : F a0 a1 a2 a3 a4 a5 a6 a7 a8 a9 = y := by rw [← e]; exact h
theorem jr11 {A0 A1 A2 A3 A4 A5 A6 A7 A8 A9 A10 β : Type} {J F : A0 → A1 → A2 → A3 → A4 → A5 → A6 → A7 → A8 → A9 → A10 → β} {a0 : A0} {a1 : A1} {a2 : A2} {a3 : A3} {a4 : A4} {a5 : A5} {a6 : A6} {a7 : A7} {a8 : A8} {a9 : A9} {a10 : A10} {y : β} (e : J = F) (h : J a0 a1 a2 a3 a4 a5 a6 a7 a8 a9 a10 = y) : F a0 a1 a2 a3 a4 a5 a6 a7 a8 a9 a10 = y := by rw [← e]; exact h
theorem jr12 {A0 A1 A2 A3 A4 A5 A6 A7 A8 A9 A10 A11 β : Type} {J F : A0 → A1 → A2 → A3 → A4 → A5 → A6 → A7 → A8 → A9 → A10 → A11 → β} {a0 : A0} {a1 : A1} {a2 : A2} {a3 : A3} {a4 : A4} {a5 : A5} {a6 : A6} {a7 : A7} {a8 : A8} {a9 : A9} {a10 : A10} {a11 : A11} {y : β} (e : J = F) (h : J a0 a1 a2 a3 a4 a5 a6 a7 a8 a9 a10 a11 = y) : F a0 a1 a2 a3 a4 a5 a6 a7 a8 a9 a10 a11 = y := by rw [← e]; exact h
theorem jr13 {A0 A1 A2 A3 A4 A5 A6 A7 A8 A9 A10 A11 A12 β : Type} {J F : A0 → A1 → A2 → A3 → A4 → A5 → A6 → A7 → A8 → A9 → A10 → A11 → A12 → β} {a0 : A0} {a1 : A1} {a2 : A2} {a3 : A3} {a4 : A4} {a5 : A5} {a6 : A6} {a7 : A7} {a8 : A8} {a9 : A9} {a10 : A10} {a11 : A11} {a12 : A12} {y : β} (e : J = F) (h : J a0 a1 a2 a3 a4 a5 a6 a7 a8 a9 a10 a11 a12 = y) : F a0 a1 a2 a3 a4 a5 a6 a7 a8 a9 a10 a11 a12 = y := by rw [← e]; exact h
theorem ifp {α : Type} {c : Prop} {_ : Decidable c} {a b y : α} (h : (if c then a else b) = y) (g : c) : a = y := by rw [if_pos g] at h; exact h
theorem ifn {α : Type} {c : Prop} {_ : Decidable c} {a b y : α} (h : (if c then a else b) = y) (g : ¬ c) : b = y := by rw [if_neg g] at h; exact h
def FU : Nat := 4096
theorem bnd_x {α β : Type} {a : α} {f : α → β} {y : β} (h : bnd a f = y) : ∃ b, b = a ∧ f b = y := ⟨a, rfl, h⟩
theorem obx_r2 {α β : Type} {x : Option ((Nat ⊕ α) × St)} {g : Nat → St → Option β} {f : α → St → Option β} {y : β} (h : obx x g f = some y) : ∃ r s, x = some (r, s) ∧ (∀ e, r = .inl e → g e s = some y) ∧ (∀ a, r = .inr a → f a s = some y) := by
  match x, h with
  | some (.inr a, s), h => exact ⟨.inr a, s, rfl, (fun e q => nomatch q), (fun b q => by cases q; exact h)⟩
  | some (.inl e, s), h => exact ⟨.inl e, s, rfl, (fun b q => by cases q; exact h), (fun e q => nomatch q)⟩
theorem rvI_inl {r : Nat ⊕ Int32} {e : Nat} (h : rvI r = .inl e) : r = .inl e := by cases r <;> cases h; rfl
theorem rvJ_inl {r : Nat ⊕ Int64} {e : Nat} (h : rvJ r = .inl e) : r = .inl e := by cases r <;> cases h; rfl
theorem rvV_inl {r : Nat ⊕ Unit} {e : Nat} (h : rvV r = .inl e) : r = .inl e := by cases r <;> cases h; rfl
theorem rvR_inl {b : Nat} {r : Nat ⊕ Nat} {e : Nat} (h : rvR b r = .inl e) : r = .inl e := by cases r <;> cases h; rfl
theorem rvI_inr {r : Nat ⊕ Int32} {v : Option Value} {P : Int32 → Prop} (h : rvI r = .inr v) (hN : ∀ a, r = .inr a → P a) : ∃ a, v = some (.int a) ∧ P a := by
  cases r <;> cases h; exact ⟨_, rfl, hN _ rfl⟩
theorem rvJ_inr {r : Nat ⊕ Int64} {v : Option Value} {P : Int64 → Prop} (h : rvJ r = .inr v) (hN : ∀ a, r = .inr a → P a) : ∃ a, v = some (.long a) ∧ P a := by
  cases r <;> cases h; exact ⟨_, rfl, hN _ rfl⟩
theorem rvV_inr {r : Nat ⊕ Unit} {v : Option Value} {P : Unit → Prop} (h : rvV r = .inr v) (hN : ∀ a, r = .inr a → P a) : ∃ a, v = none ∧ P a := by
  cases r <;> cases h; exact ⟨_, rfl, hN _ rfl⟩
theorem rvR_inr {b : Nat} {r : Nat ⊕ Nat} {v : Option Value} {P : Nat → Prop} (h : rvR b r = .inr v) (hN : ∀ a, r = .inr a → P a) : ∃ a, v = some (.ref (b + a)) ∧ P a := by
  cases r <;> cases h; exact ⟨_, rfl, hN _ rfl⟩
theorem x_inI {e : Nat} {σ σ0 : St} {r0 : Nat ⊕ Int32} (h : some ((Sum.inl e : Nat ⊕ Int32), σ) = some (r0, σ0)) : rvI r0 = .inl e := by cases h; rfl
theorem x_inJ {e : Nat} {σ σ0 : St} {r0 : Nat ⊕ Int64} (h : some ((Sum.inl e : Nat ⊕ Int64), σ) = some (r0, σ0)) : rvJ r0 = .inl e := by cases h; rfl
theorem x_inV {e : Nat} {σ σ0 : St} {r0 : Nat ⊕ Unit} (h : some ((Sum.inl e : Nat ⊕ Unit), σ) = some (r0, σ0)) : rvV r0 = .inl e := by cases h; rfl
theorem x_inR {b e : Nat} {σ σ0 : St} {r0 : Nat ⊕ Nat} (h : some ((Sum.inl e : Nat ⊕ Nat), σ) = some (r0, σ0)) : rvR b r0 = .inl e := by cases h; rfl
theorem pr_eq {x : Nat × Nat} {t : Nat} (h : x.1 = t) : x = (t, x.2) := by rw [← h]
theorem lv_size {ls : Array Slot} {n : Nat} {l : List (Nat × Value)} (h : lv_has ls n l) : ls.size = n := h.1
section OUTS
variable {p : Program} {l : Launch} {e : Env} {R : Room} {s : State} {m : MethodId} {args : Array Value} {below : List Frame} {meth : Method} {c : Code} {H : Heap} {locs : List Loc} {cells slots : Nat} {G : GP} {A0 : Nat → Prop} {sk : Sk} {σ σ0 : St} {pc mc ms : Nat} {ls : Array Slot} {rest : List Value} {q9 : Addr} {ce : Cell} {ex : Nat}
theorem x_outI {r0 : Nat ⊕ Int32} (hW : Wo G sk A0 s σ H locs) (ht : ∀ x ∈ c.exceptionTable.toList, False) (hlk : meth.locks = false) (hce : H[q9]? = some ce) (hcv : ce.vm = .none) (hcl : s.vm.findClass (exN ex) = some ce.cls) (h : some ((Sum.inl ex : Nat ⊕ Int32), σ) = some (r0, σ0)) (hc : cells ≤ mc) (hs : slots ≤ ms) :
    vx_W p l e R s m args below meth c H locs cells slots (vx_MQ below (QX (PoC G sk σ0) A0 (rvI r0)) (XX (PoC G sk σ0) A0 (rvI r0)) args s mc ms A0) (F0 m pc ls rest) q9 := x_out hW ht hlk hce hcv hcl (x_inI h) (some_r h).2 hc hs
theorem x_outJ {r0 : Nat ⊕ Int64} (hW : Wo G sk A0 s σ H locs) (ht : ∀ x ∈ c.exceptionTable.toList, False) (hlk : meth.locks = false) (hce : H[q9]? = some ce) (hcv : ce.vm = .none) (hcl : s.vm.findClass (exN ex) = some ce.cls) (h : some ((Sum.inl ex : Nat ⊕ Int64), σ) = some (r0, σ0)) (hc : cells ≤ mc) (hs : slots ≤ ms) :
    vx_W p l e R s m args below meth c H locs cells slots (vx_MQ below (QX (PoC G sk σ0) A0 (rvJ r0)) (XX (PoC G sk σ0) A0 (rvJ r0)) args s mc ms A0) (F0 m pc ls rest) q9 := x_out hW ht hlk hce hcv hcl (x_inJ h) (some_r h).2 hc hs
theorem x_outV {r0 : Nat ⊕ Unit} (hW : Wo G sk A0 s σ H locs) (ht : ∀ x ∈ c.exceptionTable.toList, False) (hlk : meth.locks = false) (hce : H[q9]? = some ce) (hcv : ce.vm = .none) (hcl : s.vm.findClass (exN ex) = some ce.cls) (h : some ((Sum.inl ex : Nat ⊕ Unit), σ) = some (r0, σ0)) (hc : cells ≤ mc) (hs : slots ≤ ms) :
    vx_W p l e R s m args below meth c H locs cells slots (vx_MQ below (QX (PoC G sk σ0) A0 (rvV r0)) (XX (PoC G sk σ0) A0 (rvV r0)) args s mc ms A0) (F0 m pc ls rest) q9 := x_out hW ht hlk hce hcv hcl (x_inV h) (some_r h).2 hc hs
theorem x_outR {r0 : Nat ⊕ Nat} (hW : Wo G sk A0 s σ H locs) (ht : ∀ x ∈ c.exceptionTable.toList, False) (hlk : meth.locks = false) (hce : H[q9]? = some ce) (hcv : ce.vm = .none) (hcl : s.vm.findClass (exN ex) = some ce.cls) (h : some ((Sum.inl ex : Nat ⊕ Nat), σ) = some (r0, σ0)) (hc : cells ≤ mc) (hs : slots ≤ ms) :
    vx_W p l e R s m args below meth c H locs cells slots (vx_MQ below (QX (PoC G sk σ0) A0 (rvR G.2.2.2 r0)) (XX (PoC G sk σ0) A0 (rvR G.2.2.2 r0)) args s mc ms A0) (F0 m pc ls rest) q9 := x_out hW ht hlk hce hcv hcl (x_inR h) (some_r h).2 hc hs
variable {cc : ByteArray} {nL : Nat} {own : String}
def exUp : List String := ["java/lang/RuntimeException", "java/lang/Exception"]
theorem x_throw {rv : Nat ⊕ Option Value} (E : En p m c s cc nL own G A0) (hW : Wo G sk A0 s σ H locs) (hl9 : l.stackTraces = false) (i ex : Nat) {ik is ic : Nat} (hi : i < 17) (hn : (strAt i).1 = own ∧ (strAt i).2.1 = is) (hcls : Bundle.fit (exN ex) = true) (hk : Cond.classLink own ik (exN ex) ∈ FW) (hini : Cond.initialized (exN ex) ∈ FW) (hat : ∀ w ∈ vx_atS own ic (exN ex) exUp, w ∈ FW)
    (ht : ∀ x ∈ c.exceptionTable.toList, False) (hlk : meth.locks = false) (hrv : rv = .inl ex) (hσ : σ = σ0) (hc : cells + 1 ≤ mc) (hs : slots + 6 ≤ ms) (hRf : 5 < R.frames) (hRl : (rest.map fun v => v.category).sum + 82 ≤ R.locals) (hRc : cells + 1 ≤ R.cells) (hRs : slots + 6 ≤ R.slots) (hls : ls.size = nL)
    (d0 : decode cc pc = .ok (.new ik, 3)) (d3 : decode cc (pc + 3) = .ok (.dup, 1)) (d4 : decode cc (pc + 4) = .ok (.ldc is, 2)) (d6 : decode cc (pc + 6) = .ok (.invokespecial ic, 3)) (d9 : decode cc (pc + 9) = .ok (.athrow, 1)) :
    W p l e R s m args below meth c H locs cells slots (vx_MQ below (QX (PoC G sk σ0) A0 rv) (XX (PoC G sk σ0) A0 rv) args s mc ms A0) (F0 m pc ls rest) := by
  subst hσ
  obtain ⟨h1, h2⟩ := hn
  have hR := E.2.2.2.2.2.2.2.1 i hi
  rw [h1, h2] at hR
  have ot : ∀ w ∈ FW, vx_ot w = true := fun w hw => by
    have h := (List.mem_filter.mp hw).2
    simp only [fw_ok, Bool.and_eq_true] at h
    simp [vx_ot, h.1]
  refine vx_throwS (names := exUp) E.1 E.2.1 hl9 E.2.2.2.1 hcls (by decide +kernel) (E.wd hk) (E.wd hini) hR (fun w h => E.wd (hat w h)) (fun w hw => ?_) E.2.2.2.2.2.2.2.2.2.2.1 E.2.2.2.2.2.2.2.2.2.2.2.1 hW.2.1 (hls.trans E.2.2.1.symm) d0 d3 d4 d6 d9 (fun x hx => absurd hx (fun z => ht x z)) (by show 2 + 3 < _; exact hRf) (by show _ + (13 * (2 + 1) + 43) ≤ _; exact hRl) hRc hRs hlk (fun t hv h3 h4 => ⟨⟨⟨ex, hrv, rfl⟩, ?_⟩, ?_⟩) hW.2.1.2.2 hc hs
  · rcases List.mem_cons.mp hw with rfl | hw
    · exact ot _ hk
    · rcases List.mem_cons.mp hw with rfl | hw
      · exact ot _ hini
      · exact ot _ (hat w hw)
  · exact hW.1.kept (fun k q hq => h4 q.1 ((hW.1 k q hq).lt))
  · exact ⟨Nat.le_trans hW.2.1.1 h3, fun q h5 h6 => by rw [h4 q (Nat.lt_of_lt_of_le h5 hW.2.1.1)]; exact hW.2.1.2.1 q h5 h6⟩
end OUTS
