/-! the mathematical state of a room, and what is asked of it: σ 0 0 how many, σ 0 1 WEEK, σ 0 2 WEAR, σ 0 3 who is away (mask), σ 0 4 WEARS, σ 0 5 COST; σ 1 KIND, σ 2 v, σ 3 DESK, σ 4 KNOWS, σ 5 LINES, σ 6 MOUTHS (6 p + d) -/
abbrev Sg : Type := Nat → Nat → Nat
def ups (σ : Sg) (i j v : Nat) : Sg := fun a b => if a = i ∧ b = j then v else σ a b
/-- σ with its i-th row new -/
def row (σ : Sg) (i : Nat) (f : Nat → Nat) : Sg := fun a => if a = i then f else σ a
def nx (d e : Nat) : Bool := (decide (d / 3 = e / 3) && (decide (d % 3 + 1 = e % 3) || decide (e % 3 + 1 = d % 3))) || (decide (d % 3 = e % 3) && !decide (d / 3 = e / 3))
def aw (σ : Sg) (p : Nat) : Bool := (σ 0 3).testBit p
def nb (σ : Sg) (p q : Nat) : Bool := decide (q < σ 0 0) && (!aw σ q && nx (σ 3 p) (σ 3 q))
def cnt (σ : Sg) (p : Nat) : Nat := cf6 (nb σ p)
def isck (σ : Sg) (q : Nat) : Bool := decide (q < σ 0 0) && decide (σ 1 q = 5)
def ckm (σ : Sg) : Nat := pm (isck σ) 6
def cck (σ : Sg) (p : Nat) : Nat := cf6 (fun q => nb σ p q && isck σ q)
def vcK (kd m n v l : Nat) : Nat := if kd = 0 then m * n else if kd = 1 then m * n + (if n = 0 then 0 else v) else if kd = 2 then m * n / 2 else if kd = 3 then m * n else if kd = 4 then m * n + (if n = 0 then 0 else v) + m else if kd = 5 then 0 else m * n + l
def vc (σ : Sg) (p t : Nat) : Nat := vcK (σ 1 p) (σ 6 (p * 6 + σ 3 p)) (cnt σ p) (σ 2 p) (σ 5 (p * 4 + (σ 0 1 + t) % 4))
def tk (σ : Sg) (p t : Nat) : Nat := if aw σ p = true then 0 else if σ 1 p = 5 then 0 else (vc σ p t - 2 * cck σ p) + (if cnt σ p = 0 then 0 else (min 99 (σ 0 2 + t)) / σ 0 4)
def ns (σ : Sg) (t : Nat) : Nat := sm (fun p => tk σ p t) (σ 0 0)
def lnK (kd a n r v : Nat) : Nat := if kd = 2 then 10 - (a + n) else if kd = 3 then 10 - (a + (if r = 1 then 5 else 0)) else if kd = 5 then 10 - (a + n + v) else if kd = 6 then 10 - (a + (if r = 1 then 5 else 0)) else 10 - a
def ln (σ : Sg) (p z : Nat) : Nat := if aw σ p = true then 0 else lnK (σ 1 p) (z / σ 0 5) (cnt σ p) (σ 3 p / 3) (σ 2 p)
def lns (σ : Sg) (z : Nat) : Nat := sm (fun p => ln σ p z) (σ 0 0)
def kns (σ : Sg) : Nat := sm (fun p => σ 4 p) (σ 0 0)
/-- who has a desk, from j on -/
def whf (σ : Sg) (d : Nat) : Nat → Nat → Option Nat
  | 0, _ => none
  | n + 1, j => if σ 3 j = d then some j else whf σ d n (j + 1)
def wh (σ : Sg) (d : Nat) : Option Nat := whf σ d (σ 0 0) 0
/-- the bounds -/
def BW (σ : Sg) : Prop := σ 0 0 ≤ 6 ∧ σ 0 1 ≤ 20000 ∧ σ 0 2 ≤ 99 ∧ σ 0 3 < 64 ∧ (1 ≤ σ 0 4 ∧ σ 0 4 ≤ 99) ∧ (1 ≤ σ 0 5 ∧ σ 0 5 ≤ 99) ∧ (∀ p, σ 1 p ≤ 6) ∧ (∀ p, σ 2 p ≤ 9) ∧ (∀ p, σ 3 p ≤ 5) ∧ (∀ p, σ 4 p ≤ 100000000) ∧ (∀ i, σ 5 i ≤ 9) ∧ (∀ i, σ 6 i ≤ 1000)
theorem nb_stop {σ : Sg} {p j : Nat} (h : σ 0 0 ≤ j) : nb σ p j = false := by
  unfold nb
  rw [decide_eq_false (by omega)]
  rfl
theorem isck_stop {σ : Sg} {j : Nat} (h : σ 0 0 ≤ j) : isck σ j = false := by
  unfold isck
  rw [decide_eq_false (by omega)]
  rfl
theorem nb_all {σ : Sg} {p : Nat} (h : σ 0 0 ≤ 6) : pm (nb σ p) (σ 0 0) = pm (nb σ p) 6 := (pm_stop (fun j hj => nb_stop hj) 6 h).symm
theorem ck_all {σ : Sg} (h : σ 0 0 ≤ 6) : pm (isck σ) (σ 0 0) = ckm σ := (pm_stop (fun j hj => isck_stop hj) 6 h).symm
theorem nbm_lt (σ : Sg) (p : Nat) : pm (nb σ p) 6 < 64 := pm_lt _ 6
theorem ckm_lt (σ : Sg) : ckm σ < 64 := pm_lt _ 6
theorem pop_cck (σ : Sg) (p : Nat) : pop (pm (nb σ p) 6 &&& ckm σ) = cck σ p := by
  rw [pop_and _ (nbm_lt σ p) _ (ckm_lt σ)]
  unfold ckm cck cf6
  simp only [pm_tb _ (show 0 < 6 by decide), pm_tb _ (show 1 < 6 by decide), pm_tb _ (show 2 < 6 by decide), pm_tb _ (show 3 < 6 by decide), pm_tb _ (show 4 < 6 by decide), pm_tb _ (show 5 < 6 by decide)]
theorem cnt_le (σ : Sg) (p : Nat) : cnt σ p ≤ 6 := cf6_le _
theorem cck_le (σ : Sg) (p : Nat) : cck σ p ≤ 6 := cf6_le _
theorem vcK_le {kd m n v l : Nat} (hm : m ≤ 1000) (hn : n ≤ 6) (hv : v ≤ 9) (hl : l ≤ 9) : vcK kd m n v l ≤ 7009 := by
  have h : m * n ≤ 1000 * 6 := Nat.mul_le_mul hm hn
  have h2 : m * n / 2 ≤ m * n := Nat.div_le_self _ _
  unfold vcK
  split
  · omega
  · split
    · split <;> omega
    · split
      · omega
      · split
        · omega
        · split
          · split <;> omega
          · split <;> omega
theorem vc_le {σ : Sg} (h : BW σ) (p t : Nat) : vc σ p t ≤ 7009 := vcK_le (h.2.2.2.2.2.2.2.2.2.2.2 _) (cnt_le σ p) (h.2.2.2.2.2.2.2.1 _) (h.2.2.2.2.2.2.2.2.2.2.1 _)
theorem tk_le {σ : Sg} (h : BW σ) (p t : Nat) : tk σ p t ≤ 7108 := by
  have h1 := vc_le h p t
  have h2 : min 99 (σ 0 2 + t) / σ 0 4 ≤ 99 := Nat.le_trans (Nat.div_le_self _ _) (Nat.min_le_left _ _)
  unfold tk
  split
  · omega
  · split
    · omega
    · split <;> omega
theorem ns_le {σ : Sg} (h : BW σ) (t : Nat) : ns σ t ≤ 42648 := by
  have h1 := sm_le (fun p => tk_le h p t) (σ 0 0)
  have h2 := h.1
  have h3 : σ 0 0 * 7108 ≤ 6 * 7108 := Nat.mul_le_mul_right _ h2
  unfold ns
  omega
theorem sm_part {f : Nat → Nat} {B n : Nat} (h : ∀ i, f i ≤ B) (hn : n ≤ 6) : sm f n ≤ 6 * B := Nat.le_trans (sm_le h n) (Nat.mul_le_mul_right _ hn)
theorem lnK_le (kd a n r v : Nat) : lnK kd a n r v ≤ 10 := by
  unfold lnK
  repeat' split
  all_goals omega
theorem ln_le (σ : Sg) (p z : Nat) : ln σ p z ≤ 10 := by
  unfold ln
  split
  · omega
  · exact lnK_le _ _ _ _ _
theorem nxt_6 : ∀ d, d < 6 → ∀ e, e < 6 → F_BT_bit (nextT d) (nI e) = some (b2i (nx d e)) := by decide +kernel
theorem nxt_M : ∀ d, d < 6 → ∀ e, e < 6 → F_M_isNext (nI d) (nI e) = some (b2i (nx d e)) ∧ nx d e = nx e d ∧ nx d d = false := by decide +kernel
/-- the class's Seating at b holds σ -/
def SR (b : Nat) (σ : Sg) (μ : Mm) : Prop := μ b 1 = nI (σ 0 0) ∧ μ b 2 = nI (σ 0 1) ∧ μ b 3 = nI (σ 0 2) ∧ μ b 7 = nI (σ 0 3) ∧ μ b 4 = nI (σ 0 4) ∧ μ b 5 = nI (σ 0 5) ∧ μ b 8 = nI (ckm σ) ∧ (∀ p, p < 6 → μ (b + 1) p = nI (σ 1 p)) ∧ (∀ p, p < 6 → μ (b + 2) p = nI (σ 2 p)) ∧ (∀ p, p < 6 → μ (b + 3) p = nI (σ 3 p)) ∧ (∀ p, p < 6 → μ (b + 4) p = nI (σ 4 p)) ∧ (∀ i, i < 24 → μ (b + 5) i = nI (σ 5 i)) ∧ (∀ i, i < 36 → μ (b + 6) i = nI (σ 6 i))
