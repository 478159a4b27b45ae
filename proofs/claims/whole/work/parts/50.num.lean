/-! numbers: 32-bit numbers that are small naturals, bits of small masks, arrays -/
def b2i (b : Bool) : Int32 := if b then 1 else 0
theorem q0 : (0 : Int32) = nI 0 := rfl
theorem q1 : (1 : Int32) = nI 1 := rfl
theorem q2 : (2 : Int32) = nI 2 := rfl
theorem q3 : (3 : Int32) = nI 3 := rfl
theorem q4 : (4 : Int32) = nI 4 := rfl
theorem q5 : (5 : Int32) = nI 5 := rfl
theorem q6 : (6 : Int32) = nI 6 := rfl
theorem q9 : (9 : Int32) = nI 9 := rfl
theorem q10 : (10 : Int32) = nI 10 := rfl
theorem q20 : (20 : Int32) = nI 20 := rfl
theorem q60 : (60 : Int32) = nI 60 := rfl
theorem q99 : (99 : Int32) = nI 99 := rfl
theorem q999 : (999 : Int32) = nI 999 := rfl
theorem q9999 : (9999 : Int32) = nI 9999 := rfl
theorem rdI_nI {g : Nat → Int32} {n j : Nat} (h : j < n) (hn : n < 2147483648) : rdI g n (nI j) = some (g j) := by
  unfold rdI
  rw [if_neg (nI_in h (by omega)), nI_clamp (by omega)]
theorem rdL_nI {g : Nat → Int64} {n j : Nat} (h : j < n) (hn : n < 2147483648) : rdL g n (nI j) = some (g j) := by
  unfold rdL
  rw [if_neg (nI_in h (by omega)), nI_clamp (by omega)]
theorem rdR_nI {b n j : Nat} (h : j < n) (hn : n < 2147483648) : rdR b n (nI j) = some (b + j) := by
  unfold rdR
  rw [if_neg (nI_in h (by omega)), nI_clamp (by omega)]
theorem wrI_nI {μ : Mm} {b n j : Nat} {x : Int32} (h : j < n) (hn : n < 2147483648) : wrI μ b n (nI j) x = some (up2 μ b j x) := by
  unfold wrI
  rw [if_neg (nI_in h (by omega)), nI_clamp (by omega)]
theorem wrL_nI {ν : Ml} {b n j : Nat} {x : Int64} (h : j < n) (hn : n < 2147483648) : wrL ν b n (nI j) x = some (upL ν b j x) := by
  unfold wrL
  rw [if_neg (nI_in h (by omega)), nI_clamp (by omega)]
theorem nI_eqP {a b : Nat} (ha : a < 2147483648) (hb : b < 2147483648) : (nI a = nI b) = (a = b) := propext (nI_eq ha hb)
theorem nI_leP {a b : Nat} (ha : a < 2147483648) (hb : b < 2147483648) : (nI a ≤ nI b) = (a ≤ b) := propext (nI_leI ha hb)
theorem nI_ltP {a b : Nat} (ha : a < 2147483648) (hb : b < 2147483648) : (nI a < nI b) = (a < b) := propext (nI_ltI ha hb)
theorem nI_gtP {a b : Nat} (ha : a < 2147483648) (hb : b < 2147483648) : (nI a > nI b) = (a > b) := propext (nI_ltI hb ha)
theorem nI_geP {a b : Nat} (ha : a < 2147483648) (hb : b < 2147483648) : (nI a ≥ nI b) = (a ≥ b) := propext (nI_leI hb ha)
theorem nI_remP {a d : Nat} (ha : a < 2147483648) (h0 : 0 < d) (hd : d < 2147483648) : nI a - nI a / nI d * nI d = nI (a % d) := pk_rem ha h0 hd
theorem nI_sub2 (x y z : Nat) : nI x - nI y - nI z = nI x - nI (y + z) := by
  rw [← nI_add]
  apply Int32.toBitVec_inj.mp
  simp only [Int32.toBitVec_sub, Int32.toBitVec_add]
  exact BitVec.sub_sub _ _ _
theorem mx0 {x y : Nat} (hx : x < 1073741824) (hy : y < 1073741824) : (if 0 < nI x - nI y then nI x - nI y else 0) = nI (x - y) := by
  have h := pk_sub_toInt (a := x) (b := y) (by omega) (by omega)
  by_cases hxy : y < x
  · rw [if_pos (Int32.lt_iff_toInt_lt.mpr (by rw [h]; show (0 : Int) < _; omega)), pk_sub (by omega)]
  · rw [if_neg (fun q => by have := Int32.lt_iff_toInt_lt.mp q; rw [h] at this; have h0 : (0 : Int32).toInt = 0 := rfl; rw [h0] at this; omega), show x - y = 0 from by omega]
    rfl
theorem mx0' {x y : Nat} (hx : x < 1073741824) (hy : y < 1073741824) : (if 0 ≤ nI x - nI y then some (nI x - nI y) else some 0) = some (nI (x - y)) := by
  have h := pk_sub_toInt (a := x) (b := y) (by omega) (by omega)
  by_cases hxy : y ≤ x
  · rw [if_pos (Int32.le_iff_toInt_le.mpr (by rw [h]; show (0 : Int) ≤ _; omega)), pk_sub (by omega)]
  · rw [if_neg (fun q => by have := Int32.le_iff_toInt_le.mp q; rw [h] at this; have h0 : (0 : Int32).toInt = 0 := rfl; rw [h0] at this; omega), show x - y = 0 from by omega]
    rfl
/-- any 32-bit number is a small natural, or below 0 -/
theorem i32_cases (x : Int32) : x < 0 ∨ ∃ n, n < 2147483648 ∧ x = nI n := by
  by_cases h : x < 0
  · exact Or.inl h
  · exact Or.inr (nI_of h)
theorem neg_not_le {x : Int32} {n : Nat} (h : x < 0) (hn : n < 2147483648) : ¬ nI n ≤ x := by
  intro q
  have h1 := Int32.lt_iff_toInt_lt.mp h
  have h2 := Int32.le_iff_toInt_le.mp q
  rw [nI_toInt (by omega)] at h2
  have h0 : (0 : Int32).toInt = 0 := rfl
  omega
theorem neg_lt {x : Int32} {n : Nat} (h : x < 0) (hn : n < 2147483648) : x < nI n := by
  apply Int32.lt_iff_toInt_lt.mpr
  have h1 := Int32.lt_iff_toInt_lt.mp h
  rw [nI_toInt (by omega)]
  have h0 : (0 : Int32).toInt = 0 := rfl
  omega
theorem nn_not_neg {n : Nat} (hn : n < 2147483648) : ¬ nI n < 0 := nI_pos (by omega)
theorem neg_ne {x : Int32} {n : Nat} (h : x < 0) (hn : n < 2147483648) : ¬ x = nI n := fun e => nn_not_neg hn (e ▸ h)
/-! bits of masks below 64 -/
theorem bit_BT : ∀ m, m < 64 → ∀ i, i < 6 → F_BT_bit (nI m) (nI i) = some (b2i (m.testBit i)) := by decide +kernel
theorem bit_M : ∀ m, m < 64 → ∀ i, i < 6 → F_M_has (nI m) (nI i) = some (b2i (m.testBit i)) := by decide +kernel
def pop (m : Nat) : Nat := (m.testBit 0).toNat + (m.testBit 1).toNat + (m.testBit 2).toNat + (m.testBit 3).toNat + (m.testBit 4).toNat + (m.testBit 5).toNat
theorem bitCount_64 : ∀ m, m < 64 → F_Int_bitCount (nI m) = some (nI (pop m)) := by decide +kernel
theorem or_bit : ∀ q, q < 6 → ∀ a, a < 2 ^ q → (nI a ||| (1 <<< (nI q &&& 31))) = nI (a + 2 ^ q) := by decide +kernel
theorem or_0 : ∀ a, a < 64 → (nI a ||| 0) = nI a := by decide +kernel
def mset (m p : Nat) (b : Bool) : Nat := if b then m ||| 2 ^ p else if m.testBit p then m - 2 ^ p else m
theorem mset_1 : ∀ m, m < 64 → ∀ p, p < 6 → (nI m ||| (1 <<< (nI p &&& 31))) = nI (mset m p true) := by decide +kernel
theorem mset_0 : ∀ m, m < 64 → ∀ p, p < 6 → (nI m &&& ((1 <<< (nI p &&& 31)) ^^^ (-1))) = nI (mset m p false) := by decide +kernel
theorem mset_lt : ∀ m, m < 64 → ∀ p, p < 6 → mset m p true < 64 ∧ mset m p false < 64 := by decide +kernel
theorem mset_bit : ∀ m, m < 64 → ∀ p, p < 6 → ∀ j, j < 6 → (mset m p true).testBit j = (decide (j = p) || m.testBit j) ∧ (mset m p false).testBit j = (!decide (j = p) && m.testBit j) := by decide +kernel
theorem and_64 : ∀ a, a < 64 → ∀ b, b < 64 → (nI a &&& nI b) = nI (a &&& b) ∧ a &&& b < 64 := by decide +kernel
/-- the mask of f below q -/
def pm (f : Nat → Bool) : Nat → Nat
  | 0 => 0
  | q + 1 => pm f q + if f q then 2 ^ q else 0
theorem pm_lt (f : Nat → Bool) : ∀ q, pm f q < 2 ^ q
  | 0 => Nat.le_refl 1
  | q + 1 => by
    have h := pm_lt f q
    show pm f q + (if f q then 2 ^ q else 0) < 2 ^ (q + 1)
    rw [Nat.pow_succ]
    split <;> omega
theorem pm_stop {f : Nat → Bool} {n : Nat} (h : ∀ j, n ≤ j → f j = false) : ∀ m, n ≤ m → pm f m = pm f n := by
  intro m hm
  induction m with
  | zero => rw [Nat.le_zero.mp hm]
  | succ m ih =>
    by_cases he : n = m + 1
    · rw [he]
    · show pm f m + (if f m then 2 ^ m else 0) = pm f n
      rw [ih (by omega), h m (by omega)]
      rfl
def cf6 (f : Nat → Bool) : Nat := (f 0).toNat + (f 1).toNat + (f 2).toNat + (f 3).toNat + (f 4).toNat + (f 5).toNat
theorem pm6_bits : ∀ a b c d e f : Bool, pop ((((((0 + if a then 2 ^ 0 else 0) + if b then 2 ^ 1 else 0) + if c then 2 ^ 2 else 0) + if d then 2 ^ 3 else 0) + if e then 2 ^ 4 else 0) + if f then 2 ^ 5 else 0) = a.toNat + b.toNat + c.toNat + d.toNat + e.toNat + f.toNat := by decide
theorem pop_pm (f : Nat → Bool) : pop (pm f 6) = cf6 f := pm6_bits (f 0) (f 1) (f 2) (f 3) (f 4) (f 5)
theorem pm6_tb : ∀ a b c d e f : Bool, ∀ j : Fin 6, ((((((0 + if a then 2 ^ 0 else 0) + if b then 2 ^ 1 else 0) + if c then 2 ^ 2 else 0) + if d then 2 ^ 3 else 0) + if e then 2 ^ 4 else 0) + if f then 2 ^ 5 else 0).testBit j.val = [a, b, c, d, e, f].getD j.val false := by decide
theorem pm_tb (f : Nat → Bool) {j : Nat} (h : j < 6) : (pm f 6).testBit j = f j := by
  have := pm6_tb (f 0) (f 1) (f 2) (f 3) (f 4) (f 5) ⟨j, h⟩
  rcases (show j = 0 ∨ j = 1 ∨ j = 2 ∨ j = 3 ∨ j = 4 ∨ j = 5 by omega) with rfl | rfl | rfl | rfl | rfl | rfl <;> exact this
theorem pop_and : ∀ a, a < 64 → ∀ b, b < 64 → pop (a &&& b) = (a.testBit 0 && b.testBit 0).toNat + (a.testBit 1 && b.testBit 1).toNat + (a.testBit 2 && b.testBit 2).toNat + (a.testBit 3 && b.testBit 3).toNat + (a.testBit 4 && b.testBit 4).toNat + (a.testBit 5 && b.testBit 5).toNat := by decide +kernel
theorem pm_ext0 : ∀ a b c d e f : Bool, (((((((0 + if a then 2 ^ 0 else 0) + if b then 2 ^ 1 else 0) + if c then 2 ^ 2 else 0) + if d then 2 ^ 3 else 0) + if e then 2 ^ 4 else 0) + if f then 2 ^ 5 else 0) = 0) = (a.toNat + b.toNat + c.toNat + d.toNat + e.toNat + f.toNat = 0) := by decide
theorem pm_0 (f : Nat → Bool) : (pm f 6 = 0) = (cf6 f = 0) := pm_ext0 (f 0) (f 1) (f 2) (f 3) (f 4) (f 5)
theorem cf6_le (f : Nat → Bool) : cf6 f ≤ 6 := by
  have h : ∀ b : Bool, b.toNat ≤ 1 := by decide
  have := h (f 0); have := h (f 1); have := h (f 2); have := h (f 3); have := h (f 4); have := h (f 5)
  unfold cf6
  omega
theorem b2i_0 (b : Bool) : (b2i b = 0) = (b = false) := by cases b <;> decide
theorem b2i_1 (b : Bool) : (b2i b = 1) = (b = true) := by cases b <;> decide
theorem rZ_b (b : Bool) : rZ (b2i b) = some (b2i b) := by cases b <;> decide
theorem rZ_0 : rZ 0 = some 0 := by decide
theorem rZ_1 : rZ 1 = some 1 := by decide
/-- sums -/
def sm (f : Nat → Nat) : Nat → Nat
  | 0 => 0
  | n + 1 => sm f n + f n
theorem sm_le {f : Nat → Nat} {B : Nat} (h : ∀ i, f i ≤ B) : ∀ n, sm f n ≤ n * B
  | 0 => by simp [sm]
  | n + 1 => by
    have := sm_le h n
    have := h n
    rw [Nat.succ_mul]
    show sm f n + f n ≤ _
    omega
theorem sm_congr {f g : Nat → Nat} : ∀ n, (∀ i, i < n → f i = g i) → sm f n = sm g n
  | 0, _ => rfl
  | n + 1, h => by
    show sm f n + f n = sm g n + g n
    rw [sm_congr n (fun i hi => h i (by omega)), h n (by omega)]
theorem ite_le {α : Sort _} {a b : Nat} {x y : α} (ha : a < 2147483648) (hb : b < 2147483648) : (if nI a ≤ nI b then x else y) = if a ≤ b then x else y := by
  simp only [nI_leP ha hb]
theorem ite_lt {α : Sort _} {a b : Nat} {x y : α} (ha : a < 2147483648) (hb : b < 2147483648) : (if nI a < nI b then x else y) = if a < b then x else y := by
  simp only [nI_ltP ha hb]
theorem ite_gt {α : Sort _} {a b : Nat} {x y : α} (ha : a < 2147483648) (hb : b < 2147483648) : (if nI a > nI b then x else y) = if a > b then x else y := by
  simp only [nI_gtP ha hb]
theorem ite_eq {α : Sort _} {a b : Nat} {x y : α} (ha : a < 2147483648) (hb : b < 2147483648) : (if nI a = nI b then x else y) = if a = b then x else y := by
  simp only [nI_eqP ha hb]
theorem ite_b0 {α : Sort _} {c : Bool} {x y : α} : (if b2i c = 0 then x else y) = if c = true then y else x := by
  cases c <;> rfl
theorem ite_b1 {α : Sort _} {c : Bool} {x y : α} : (if b2i c = 1 then x else y) = if c = true then x else y := by
  cases c <;> rfl
theorem fu_gt {n : Nat} (h : n < 100000) : n < fu := h
/-- not by rfl alone: so the kernel need not choose what to unfold -/
theorem lt_e {α β : Type} (v : α) (g : α → Option β) : lt_ v g = g v := Eq.trans (Eq.refl (lt_ v g)) (Eq.refl (g v))
theorem jn_e {α β : Type} (f : (α → Option β) → Option β) (k : α → Option β) : jn f k = f k := Eq.trans (Eq.refl (jn f k)) (Eq.refl (f k))
