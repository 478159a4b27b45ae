/-! what image and undo copy of single numbers -/
def imS0 (μ : Mm) : Mm := up2 μ 0 43 1
def imS1 (μ : Mm) : Mm := up2 (imS0 μ) 0 44 ((imS0 μ) 0 10)
def imS2 (μ : Mm) : Mm := up2 (imS1 μ) 0 45 ((imS1 μ) 0 0)
def imS3 (μ : Mm) : Mm := up2 (imS2 μ) 0 46 ((imS2 μ) 0 1)
def imS4 (μ : Mm) : Mm := up2 (imS3 μ) 0 47 ((imS3 μ) 0 2)
def imS5 (μ : Mm) : Mm := up2 (imS4 μ) 0 48 ((imS4 μ) 0 3)
def imS6 (μ : Mm) : Mm := up2 (imS5 μ) 0 49 ((imS5 μ) 0 34)
def imS7 (μ : Mm) : Mm := up2 (imS6 μ) 0 50 ((imS6 μ) 0 37)
def imS8 (μ : Mm) : Mm := up2 (imS7 μ) 0 51 ((imS7 μ) 0 38)
theorem imS_s43 (μ : Mm) : imS8 μ 0 43 = 1 := by
  rw [imS8, u_nj (by omega), imS7, u_nj (by omega), imS6, u_nj (by omega), imS5, u_nj (by omega), imS4, u_nj (by omega), imS3, u_nj (by omega), imS2, u_nj (by omega), imS1, u_nj (by omega), imS0, u_eq rfl rfl]
theorem imS_s44 (μ : Mm) : imS8 μ 0 44 = μ 0 10 := by
  rw [imS8, u_nj (by omega), imS7, u_nj (by omega), imS6, u_nj (by omega), imS5, u_nj (by omega), imS4, u_nj (by omega), imS3, u_nj (by omega), imS2, u_nj (by omega), imS1, u_eq rfl rfl, imS0, u_nj (by omega)]
theorem imS_s45 (μ : Mm) : imS8 μ 0 45 = μ 0 0 := by
  rw [imS8, u_nj (by omega), imS7, u_nj (by omega), imS6, u_nj (by omega), imS5, u_nj (by omega), imS4, u_nj (by omega), imS3, u_nj (by omega), imS2, u_eq rfl rfl, imS1, u_nj (by omega), imS0, u_nj (by omega)]
theorem imS_s46 (μ : Mm) : imS8 μ 0 46 = μ 0 1 := by
  rw [imS8, u_nj (by omega), imS7, u_nj (by omega), imS6, u_nj (by omega), imS5, u_nj (by omega), imS4, u_nj (by omega), imS3, u_eq rfl rfl, imS2, u_nj (by omega), imS1, u_nj (by omega), imS0, u_nj (by omega)]
theorem imS_s47 (μ : Mm) : imS8 μ 0 47 = μ 0 2 := by
  rw [imS8, u_nj (by omega), imS7, u_nj (by omega), imS6, u_nj (by omega), imS5, u_nj (by omega), imS4, u_eq rfl rfl, imS3, u_nj (by omega), imS2, u_nj (by omega), imS1, u_nj (by omega), imS0, u_nj (by omega)]
theorem imS_s48 (μ : Mm) : imS8 μ 0 48 = μ 0 3 := by
  rw [imS8, u_nj (by omega), imS7, u_nj (by omega), imS6, u_nj (by omega), imS5, u_eq rfl rfl, imS4, u_nj (by omega), imS3, u_nj (by omega), imS2, u_nj (by omega), imS1, u_nj (by omega), imS0, u_nj (by omega)]
theorem imS_s49 (μ : Mm) : imS8 μ 0 49 = μ 0 34 := by
  rw [imS8, u_nj (by omega), imS7, u_nj (by omega), imS6, u_eq rfl rfl, imS5, u_nj (by omega), imS4, u_nj (by omega), imS3, u_nj (by omega), imS2, u_nj (by omega), imS1, u_nj (by omega), imS0, u_nj (by omega)]
theorem imS_s50 (μ : Mm) : imS8 μ 0 50 = μ 0 37 := by
  rw [imS8, u_nj (by omega), imS7, u_eq rfl rfl, imS6, u_nj (by omega), imS5, u_nj (by omega), imS4, u_nj (by omega), imS3, u_nj (by omega), imS2, u_nj (by omega), imS1, u_nj (by omega), imS0, u_nj (by omega)]
theorem imS_s51 (μ : Mm) : imS8 μ 0 51 = μ 0 38 := by
  rw [imS8, u_eq rfl rfl, imS7, u_nj (by omega), imS6, u_nj (by omega), imS5, u_nj (by omega), imS4, u_nj (by omega), imS3, u_nj (by omega), imS2, u_nj (by omega), imS1, u_nj (by omega), imS0, u_nj (by omega)]
theorem imS_o (μ : Mm) {j : Nat} (h : j ≠ 43 ∧ j ≠ 44 ∧ j ≠ 45 ∧ j ≠ 46 ∧ j ≠ 47 ∧ j ≠ 48 ∧ j ≠ 49 ∧ j ≠ 50 ∧ j ≠ 51) : imS8 μ 0 j = μ 0 j := by
  rw [imS8, u_nj (by omega), imS7, u_nj (by omega), imS6, u_nj (by omega), imS5, u_nj (by omega), imS4, u_nj (by omega), imS3, u_nj (by omega), imS2, u_nj (by omega), imS1, u_nj (by omega), imS0, u_nj (by omega)]
theorem imS_c (μ : Mm) {c : Nat} (h : c ≠ 0) : imS8 μ c = μ c := by
  rw [imS8, u_cf h, imS7, u_cf h, imS6, u_cf h, imS5, u_cf h, imS4, u_cf h, imS3, u_cf h, imS2, u_cf h, imS1, u_cf h, imS0, u_cf h]
def unS0 (μ : Mm) : Mm := up2 μ 0 10 (μ 0 44)
def unS1 (μ : Mm) : Mm := up2 (unS0 μ) 0 0 ((unS0 μ) 0 45)
def unS2 (μ : Mm) : Mm := up2 (unS1 μ) 0 1 ((unS1 μ) 0 46)
def unS3 (μ : Mm) : Mm := up2 (unS2 μ) 0 2 ((unS2 μ) 0 47)
def unS4 (μ : Mm) : Mm := up2 (unS3 μ) 0 3 ((unS3 μ) 0 48)
def unS5 (μ : Mm) : Mm := up2 (unS4 μ) 0 34 ((unS4 μ) 0 49)
def unS6 (μ : Mm) : Mm := up2 (unS5 μ) 0 37 ((unS5 μ) 0 50)
def unS7 (μ : Mm) : Mm := up2 (unS6 μ) 0 38 ((unS6 μ) 0 51)
theorem unS_s10 (μ : Mm) : unS7 μ 0 10 = μ 0 44 := by
  rw [unS7, u_nj (by omega), unS6, u_nj (by omega), unS5, u_nj (by omega), unS4, u_nj (by omega), unS3, u_nj (by omega), unS2, u_nj (by omega), unS1, u_nj (by omega), unS0, u_eq rfl rfl]
theorem unS_s0 (μ : Mm) : unS7 μ 0 0 = μ 0 45 := by
  rw [unS7, u_nj (by omega), unS6, u_nj (by omega), unS5, u_nj (by omega), unS4, u_nj (by omega), unS3, u_nj (by omega), unS2, u_nj (by omega), unS1, u_eq rfl rfl, unS0, u_nj (by omega)]
theorem unS_s1 (μ : Mm) : unS7 μ 0 1 = μ 0 46 := by
  rw [unS7, u_nj (by omega), unS6, u_nj (by omega), unS5, u_nj (by omega), unS4, u_nj (by omega), unS3, u_nj (by omega), unS2, u_eq rfl rfl, unS1, u_nj (by omega), unS0, u_nj (by omega)]
theorem unS_s2 (μ : Mm) : unS7 μ 0 2 = μ 0 47 := by
  rw [unS7, u_nj (by omega), unS6, u_nj (by omega), unS5, u_nj (by omega), unS4, u_nj (by omega), unS3, u_eq rfl rfl, unS2, u_nj (by omega), unS1, u_nj (by omega), unS0, u_nj (by omega)]
theorem unS_s3 (μ : Mm) : unS7 μ 0 3 = μ 0 48 := by
  rw [unS7, u_nj (by omega), unS6, u_nj (by omega), unS5, u_nj (by omega), unS4, u_eq rfl rfl, unS3, u_nj (by omega), unS2, u_nj (by omega), unS1, u_nj (by omega), unS0, u_nj (by omega)]
theorem unS_s34 (μ : Mm) : unS7 μ 0 34 = μ 0 49 := by
  rw [unS7, u_nj (by omega), unS6, u_nj (by omega), unS5, u_eq rfl rfl, unS4, u_nj (by omega), unS3, u_nj (by omega), unS2, u_nj (by omega), unS1, u_nj (by omega), unS0, u_nj (by omega)]
theorem unS_s37 (μ : Mm) : unS7 μ 0 37 = μ 0 50 := by
  rw [unS7, u_nj (by omega), unS6, u_eq rfl rfl, unS5, u_nj (by omega), unS4, u_nj (by omega), unS3, u_nj (by omega), unS2, u_nj (by omega), unS1, u_nj (by omega), unS0, u_nj (by omega)]
theorem unS_s38 (μ : Mm) : unS7 μ 0 38 = μ 0 51 := by
  rw [unS7, u_eq rfl rfl, unS6, u_nj (by omega), unS5, u_nj (by omega), unS4, u_nj (by omega), unS3, u_nj (by omega), unS2, u_nj (by omega), unS1, u_nj (by omega), unS0, u_nj (by omega)]
theorem unS_o (μ : Mm) {j : Nat} (h : j ≠ 10 ∧ j ≠ 0 ∧ j ≠ 1 ∧ j ≠ 2 ∧ j ≠ 3 ∧ j ≠ 34 ∧ j ≠ 37 ∧ j ≠ 38) : unS7 μ 0 j = μ 0 j := by
  rw [unS7, u_nj (by omega), unS6, u_nj (by omega), unS5, u_nj (by omega), unS4, u_nj (by omega), unS3, u_nj (by omega), unS2, u_nj (by omega), unS1, u_nj (by omega), unS0, u_nj (by omega)]
theorem unS_c (μ : Mm) {c : Nat} (h : c ≠ 0) : unS7 μ c = μ c := by
  rw [unS7, u_cf h, unS6, u_cf h, unS5, u_cf h, unS4, u_cf h, unS3, u_cf h, unS2, u_cf h, unS1, u_cf h, unS0, u_cf h]
