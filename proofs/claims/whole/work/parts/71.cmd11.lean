/-! quietest, wisest: plans are numbers, their digits base 6 are the desks -/
/-- over numbers in their order -/
def af {β : Type} (g : Nat → β → β) : Nat → β → β
  | 0, B => B
  | n + 1, B => g n (af g n B)
theorem af_congr {β : Type} {g h : Nat → β → β} : ∀ n, (∀ j, j < n → ∀ B, g j B = h j B) → ∀ B, af g n B = af h n B
  | 0, _, _ => rfl
  | n + 1, H, B => by
    show g n (af g n B) = h n (af h n B)
    rw [af_congr n (fun j hj => H j (by omega)) B, H n (by omega)]
theorem af_id {β : Type} : ∀ n (B : β), af (fun _ B => B) n B = B
  | 0, _ => rfl
  | n + 1, B => af_id n B
theorem af_add {β : Type} {g : Nat → β → β} {m : Nat} : ∀ n (B : β), af g (m + n) B = af (fun j => g (m + j)) n (af g m B)
  | 0, _ => rfl
  | n + 1, B => by
    show g (m + n) (af g (m + n) B) = g (m + n) (af (fun j => g (m + j)) n (af g m B))
    rw [af_add n B]
theorem af_mul {β : Type} {g : Nat → β → β} {k : Nat} : ∀ m (B : β), af g (m * k) B = af (fun e B => af (fun j B => g (e * k + j) B) k B) m B
  | 0, B => by rw [Nat.zero_mul]; rfl
  | m + 1, B => by
    rw [Nat.succ_mul, af_add, af_mul m B]
    rfl
def mm : Nat → Nat → Nat → Bool
  | 0, _, _ => false
  | p + 1, N, e => decide (N % 6 = e) || mm p (N / 6) e
def okp : Nat → Nat → Bool
  | 0, _ => true
  | p + 1, N => okp p (N / 6) && !mm p (N / 6) (N % 6)
def dg : Nat → Nat → Nat → Nat
  | 0, _, _ => 0
  | p + 1, N, q => if q = p then N % 6 else dg p (N / 6) q
theorem dg_le : ∀ p N q, dg p N q ≤ 5
  | 0, _, _ => Nat.zero_le _
  | p + 1, N, q => by
    show (if q = p then N % 6 else dg p (N / 6) q) ≤ 5
    have := dg_le p (N / 6) q
    split <;> omega
def btr (wi : Bool) (x v : Nat) : Bool := cond wi (decide (v < x)) (decide (x < v))
def upB (wi : Bool) (w : Nat → Nat) (N : Nat) : Option (Nat × Nat) → Option (Nat × Nat)
  | none => some (w N, N)
  | some (v, M) => if btr wi (w N) v = true then some (w N, N) else some (v, M)
def arr (wi : Bool) (w : Nat → Nat) : Nat → Nat → Nat → Option (Nat × Nat) → Option (Nat × Nat)
  | 0, _, N, B => upB wi w N B
  | r + 1, p, N, B => af (fun e B => if mm p N e = true then B else arr wi w r (p + 1) (6 * N + e) B) 6 B
theorem okp_s {p N e : Nat} (he : e < 6) : okp (p + 1) (6 * N + e) = (okp p N && !mm p N e) := by
  show (okp p ((6 * N + e) / 6) && !mm p ((6 * N + e) / 6) ((6 * N + e) % 6)) = _
  rw [show (6 * N + e) / 6 = N by omega, show (6 * N + e) % 6 = e by omega]
theorem mm_s {p N e d : Nat} (he : e < 6) : mm (p + 1) (6 * N + e) d = (decide (e = d) || mm p N d) := by
  show (decide ((6 * N + e) % 6 = d) || mm p ((6 * N + e) / 6) d) = _
  rw [show (6 * N + e) / 6 = N by omega, show (6 * N + e) % 6 = e by omega]
theorem dg_s {p N e q : Nat} (he : e < 6) : dg (p + 1) (6 * N + e) q = if q = p then e else dg p N q := by
  show (if q = p then (6 * N + e) % 6 else dg p ((6 * N + e) / 6) q) = _
  rw [show (6 * N + e) / 6 = N by omega, show (6 * N + e) % 6 = e by omega]
theorem blk (wi : Bool) (w : Nat → Nat) : ∀ r p N B, af (fun j B => if okp (p + r) (N * 6 ^ r + j) = true then upB wi w (N * 6 ^ r + j) B else B) (6 ^ r) B = if okp p N = true then arr wi w r p N B else B := by
  intro r
  induction r with
  | zero =>
    intro p N B
    rw [Nat.pow_zero]
    show (if okp p (N * 1 + 0) = true then upB wi w (N * 1 + 0) B else B) = _
    rw [Nat.mul_one]
    rfl
  | succ r ih =>
    intro p N B
    have hk : 6 ^ (r + 1) = 6 * 6 ^ r := by rw [Nat.pow_succ, Nat.mul_comm]
    rw [hk, af_mul, af_congr 6 (h := fun e B => if okp p N = true then (if mm p N e = true then B else arr wi w r (p + 1) (6 * N + e) B) else B) (fun e he B => ?_)]
    · by_cases h : okp p N = true
      · simp only [if_pos h]
        rfl
      · simp only [if_neg h]
        exact af_id 6 B
    · have h := ih (p + 1) (6 * N + e) B
      rw [okp_s he] at h
      have e1 : ∀ j, N * (6 * 6 ^ r) + (e * 6 ^ r + j) = (6 * N + e) * 6 ^ r + j := fun j => by
        rw [Nat.add_mul, ← Nat.mul_assoc, Nat.mul_comm N 6]
        omega
      have e2 : p + (r + 1) = p + 1 + r := by omega
      simp only [e1, e2]
      rw [h]
      cases okp p N <;> cases mm p N e <;> rfl
theorem upB_some (wi : Bool) (w : Nat → Nat) (N : Nat) (B : Option (Nat × Nat)) : ∃ v M, upB wi w N B = some (v, M) ∧ (M = N ∨ B = some (v, M)) := by
  cases B with
  | none => exact ⟨_, _, rfl, Or.inl rfl⟩
  | some x =>
    obtain ⟨v, M⟩ := x
    show ∃ v' M', (if btr wi (w N) v = true then some (w N, N) else some (v, M)) = some (v', M') ∧ _
    split
    · exact ⟨_, _, rfl, Or.inl rfl⟩
    · exact ⟨_, _, rfl, Or.inr rfl⟩
/-- some plan is found, once one number is one -/
theorem af_some {wi : Bool} {w : Nat → Nat} {P j : Nat} (hj : okp P j = true) : ∀ n, j < n → ∃ x, af (fun j B => if okp P j = true then upB wi w j B else B) n none = some x
  | 0, h => absurd h (Nat.not_lt_zero j)
  | n + 1, h => by
    show ∃ x, (if okp P n = true then upB wi w n (af (fun j B => if okp P j = true then upB wi w j B else B) n none) else af (fun j B => if okp P j = true then upB wi w j B else B) n none) = some x
    by_cases hn : okp P n = true
    · rw [if_pos hn]
      obtain ⟨v, M, e, _⟩ := upB_some wi w n (af (fun j B => if okp P j = true then upB wi w j B else B) n none)
      exact ⟨_, e⟩
    · rw [if_neg hn]
      exact af_some hj n (by
        by_cases c : j = n
        · exact absurd (c ▸ hj) hn
        · omega)
theorem first_plan : ∀ P, P ≤ 6 → ∃ j, j < 6 ^ P ∧ okp P j = true := by
  intro P h
  rcases (show P = 0 ∨ P = 1 ∨ P = 2 ∨ P = 3 ∨ P = 4 ∨ P = 5 ∨ P = 6 by omega) with rfl | rfl | rfl | rfl | rfl | rfl | rfl
  · exact ⟨0, by decide, by decide⟩
  · exact ⟨0, by decide, by decide⟩
  · exact ⟨1, by decide, by decide⟩
  · exact ⟨8, by decide, by decide⟩
  · exact ⟨51, by decide, by decide⟩
  · exact ⟨310, by decide, by decide⟩
  · exact ⟨1865, by decide, by decide⟩
theorem neg_e (x : Int32) : -x = 0 - x := (Int32.zero_sub x).symm
theorem neg_n (x : Int32) : -(-x) = x := Int32.neg_neg
theorem add_m1 (x : Int32) : x + (-1) = x - 1 := (Int32.sub_eq_add_neg x 1).symm

theorem neg_toInt {x : Nat} (hx : x < 1000000) : (-nI x).toInt = -(x : Int) := by
  rw [neg_e, q0, pk_sub_toInt (a := 0) (b := x) (by omega) (by omega)]
  omega
theorem min_toInt : (-1000000000 : Int32).toInt = -1000000000 := by decide
theorem neg_leP {x v : Nat} (hx : x < 1000000) (hv : v < 1000000) : (-nI x ≤ -nI v) = (v ≤ x) := by
  apply propext
  rw [Int32.le_iff_toInt_le, neg_toInt hx, neg_toInt hv]
  omega
theorem neg_ltP {x v : Nat} (hx : x < 1000000) (hv : v < 1000000) : (-nI x < -nI v) = (v < x) := by
  apply propext
  rw [Int32.lt_iff_toInt_lt, neg_toInt hx, neg_toInt hv]
  omega
def wth (wi : Bool) (x : Nat) : Int32 := if wi = true then nI x else -nI x
theorem wth_min {wi : Bool} {x : Nat} (hx : x < 1000000) : ¬ wth wi x ≤ -1000000000 ∧ ¬ wth wi x < -1000000000 := by
  rw [Int32.le_iff_toInt_le, Int32.lt_iff_toInt_lt, min_toInt]
  unfold wth
  cases wi
  · rw [if_neg (by decide), neg_toInt hx]
    omega
  · rw [if_pos rfl, nI_toInt (by omega)]
    omega
theorem wth_le {wi : Bool} {x v : Nat} (hx : x < 1000000) (hv : v < 1000000) : (wth wi x ≤ wth wi v) = (btr wi x v = false) ∧ (wth wi x < wth wi v) = (btr wi v x = true) := by
  unfold wth btr
  cases wi
  · rw [if_neg (by decide), if_neg (by decide), neg_leP hx hv, neg_ltP hx hv]
    show (v ≤ x) = (decide (x < v) = false) ∧ (v < x) = (decide (v < x) = true)
    rw [decide_eq_false_iff_not, decide_eq_true_iff]
    exact ⟨propext ⟨fun h => by omega, fun h => by omega⟩, rfl⟩
  · rw [if_pos rfl, if_pos rfl, nI_leP (by omega) (by omega), nI_ltP (by omega) (by omega)]
    show (x ≤ v) = (decide (v < x) = false) ∧ (x < v) = (decide (x < v) = true)
    rw [decide_eq_false_iff_not, decide_eq_true_iff]
    exact ⟨propext ⟨fun h => by omega, fun h => by omega⟩, rfl⟩
theorem btr_as {wi : Bool} {x v : Nat} (h : btr wi x v = false) (h2 : btr wi v x = false) : x = v := by
  unfold btr at h h2
  cases wi
  · have a := of_decide_eq_false (show decide (x < v) = false from h)
    have b := of_decide_eq_false (show decide (v < x) = false from h2)
    omega
  · have a := of_decide_eq_false (show decide (v < x) = false from h)
    have b := of_decide_eq_false (show decide (x < v) = false from h2)
    omega
theorem btr_asym {wi : Bool} {x v : Nat} (h : btr wi x v = true) : ¬ btr wi v x = true := by
  unfold btr at h ⊢
  cases wi
  · have a := of_decide_eq_true (show decide (x < v) = true from h)
    intro q
    have b := of_decide_eq_true (show decide (v < x) = true from q)
    omega
  · have a := of_decide_eq_true (show decide (v < x) = true from h)
    intro q
    have b := of_decide_eq_true (show decide (x < v) = true from q)
    omega
/-! what a plan is worth hangs on the desks of those who are there alone -/
theorem nb_row {s : Sg} {f g : Nat → Nat} (h : ∀ p, p < s 0 0 → f p = g p) {p : Nat} (hp : p < s 0 0) : nb (row s 3 f) p = nb (row s 3 g) p := by
  funext q
  show (decide (q < s 0 0) && (!aw s q && nx (f p) (f q))) = (decide (q < s 0 0) && (!aw s q && nx (g p) (g q)))
  by_cases c : q < s 0 0
  · rw [h p hp, h q c]
  · rw [decide_eq_false c]
    rfl
theorem tk_row {s : Sg} {f g : Nat → Nat} (h : ∀ p, p < s 0 0 → f p = g p) {p t : Nat} (hp : p < s 0 0) : tk (row s 3 f) p t = tk (row s 3 g) p t := by
  have hn := nb_row h hp
  show (if aw s p = true then 0 else if s 1 p = 5 then 0 else (vcK (s 1 p) (s 6 (p * 6 + f p)) (cf6 (nb (row s 3 f) p)) (s 2 p) (s 5 (p * 4 + (s 0 1 + t) % 4)) - 2 * cf6 (fun q => nb (row s 3 f) p q && isck s q)) + (if cf6 (nb (row s 3 f) p) = 0 then 0 else (min 99 (s 0 2 + t)) / s 0 4)) = _
  rw [hn, h p hp]
  rfl
theorem ln_row {s : Sg} {f g : Nat → Nat} (h : ∀ p, p < s 0 0 → f p = g p) {p z : Nat} (hp : p < s 0 0) : ln (row s 3 f) p z = ln (row s 3 g) p z := by
  have hn := nb_row h hp
  show (if aw s p = true then 0 else lnK (s 1 p) (z / s 0 5) (cf6 (nb (row s 3 f) p)) (f p / 3) (s 2 p)) = _
  rw [hn, h p hp]
  rfl
theorem ns_row {s : Sg} {f g : Nat → Nat} (h : ∀ p, p < s 0 0 → f p = g p) {t : Nat} : ns (row s 3 f) t = ns (row s 3 g) t := by
  show sm (fun p => tk (row s 3 f) p t) (s 0 0) = sm (fun p => tk (row s 3 g) p t) (s 0 0)
  exact sm_congr _ (fun i hi => tk_row h hi)
theorem lns_row {s : Sg} {f g : Nat → Nat} (h : ∀ p, p < s 0 0 → f p = g p) {z : Nat} : lns (row s 3 f) z = lns (row s 3 g) z := by
  show sm (fun p => ln (row s 3 f) p z) (s 0 0) = sm (fun p => ln (row s 3 g) p z) (s 0 0)
  exact sm_congr _ (fun i hi => ln_row h hi)
def wv (wi : Bool) (s : Sg) : Nat := if wi = true then lns s (ns s 0) else ns s 0
theorem wv_row {wi : Bool} {s : Sg} {f g : Nat → Nat} (h : ∀ p, p < s 0 0 → f p = g p) : wv wi (row s 3 f) = wv wi (row s 3 g) := by
  unfold wv
  rw [ns_row h, lns_row h]
theorem lns_le {s : Sg} (B : BW s) (z : Nat) : lns s z ≤ 60 := sm_part (fun i => ln_le s i z) B.1
theorem wv_lt {wi : Bool} {s : Sg} (B : BW s) : wv wi s < 1000000 := by
  have h1 := lns_le B (ns s 0)
  have h2 := ns_le B 0
  unfold wv
  split <;> omega
/-- the plan told by a number -/
def pln (s : Sg) (N : Nat) : Sg := row s 3 (dg (s 0 0) N)
def wq (wi : Bool) (s : Sg) (N : Nat) : Nat := wv wi (pln s N)
theorem wq_lt {wi : Bool} {s : Sg} (B : BW s) (N : Nat) : wq wi s N < 1000000 := wv_lt (BW_row3 B (dg_le _ _))
/-! the class -/
def XB (wi : Bool) (P : Nat) : Option (Nat × Nat) → Int32 → (Nat → Int32) → Prop
  | none, so, _ => so = -1000000000
  | some (v, N), so, r => v < 1000000 ∧ so = wth wi v ∧ ∀ p, p < P → r p = nI (dg P N p)
theorem leafB {wi : Bool} {P N : Nat} {w : Nat → Nat} {B : Option (Nat × Nat)} {so : Int32} {r r' : Nat → Int32} (hB : XB wi P B so r) (hx : w N < 1000000) (hr : ∀ p, p < P → r' p = nI (dg P N p)) : (wth wi (w N) ≤ so ∧ XB wi P (upB wi w N B) (if wth wi (w N) < so then so else wth wi (w N)) r) ∨ (¬ wth wi (w N) ≤ so ∧ XB wi P (upB wi w N B) (if wth wi (w N) < so then so else wth wi (w N)) r') := by
  cases B with
  | none =>
    have hB' : so = -1000000000 := hB
    subst hB'
    refine Or.inr ⟨(wth_min hx).1, ?_⟩
    rw [if_neg (wth_min hx).2]
    exact ⟨hx, rfl, hr⟩
  | some y =>
    obtain ⟨v, M⟩ := y
    obtain ⟨h1, h2, h3⟩ := hB
    subst h2
    have e := wth_le (wi := wi) hx h1
    show (_ ∧ XB wi P (if btr wi (w N) v = true then some (w N, N) else some (v, M)) _ _) ∨ (_ ∧ XB wi P (if btr wi (w N) v = true then some (w N, N) else some (v, M)) _ _)
    simp only [e.1, e.2]
    by_cases c : btr wi (w N) v = true
    · refine Or.inr ⟨by rw [c]; decide, ?_⟩
      rw [if_pos c, if_neg (btr_asym c)]
      exact ⟨hx, rfl, hr⟩
    · have c' : btr wi (w N) v = false := by
        cases h : btr wi (w N) v
        · rfl
        · exact absurd h c
      refine Or.inl ⟨c', ?_⟩
      rw [if_neg c]
      by_cases d : btr wi v (w N) = true
      · rw [if_pos d]
        exact ⟨h1, rfl, h3⟩
      · have d' : btr wi v (w N) = false := by
          cases h : btr wi v (w N)
          · rfl
          · exact absurd h d
        rw [if_neg d, btr_as c' d']
        exact ⟨h1, rfl, h3⟩
def XA (s : Sg) (f : Nat → Nat) (μ0 μ : Mm) : Prop := SR 60 (row s 3 f) μ ∧ (∀ p, f p ≤ 5) ∧ ∀ c, c ≠ 13 → c ≠ 63 → μ c = μ0 c
theorem arrX (wi : Bool) {s : Sg} (B : BW s) {μ0 : Mm} : ∀ r D p N u f so C μ, p + r = s 0 0 → r < D → u < 64 → (∀ e, e < 6 → u.testBit e = mm p N e) → XA s f μ0 μ → (∀ q, q < p → f q = dg p N q) → XB wi (s 0 0) C so (μ 13) → ∃ so1 f1 μ1, F_BT_arrange D 60 (nI p) (nI u) (b2i wi) so μ = some (so1, μ1) ∧ XA s f1 μ0 μ1 ∧ (∀ q, q < p → f1 q = dg p N q) ∧ XB wi (s 0 0) (arr wi (wq wi s) r p N C) so1 (μ1 13) := by
  have h66 := B.1
  intro r
  induction r with
  | zero =>
    intro D p N u f so C μ hp hD hu hb A hf hB
    obtain ⟨D1, rfl⟩ : ∃ N, D = N + 1 := ⟨D - 1, by omega⟩
    have e1 : μ 60 1 = nI (s 0 0) := A.1.1
    have B1 : BW (row s 3 f) := BW_row3 B A.2.1
    have l1 := ns_le B1 0
    have xn : F_Seat_noise 60 0 μ = some (nI (ns (row s 3 f) 0)) := x_noise A.1 B1 (t := 0) (by omega)
    have hpe : p = s 0 0 := by omega
    have hw : wv wi (row s 3 f) = wq wi s N := wv_row (fun q hq => by rw [hf q (by omega), hpe])
    rw [F_BT_arrange]
    unfold B_BT_arrange
    have hx := wq_lt (wi := wi) B N
    have hr : ∀ q, q < s 0 0 → (cpS μ 63 13 6) 13 q = nI (dg (s 0 0) N q) := fun q hq => by
      rw [p_eq rfl (by omega), A.1.2.2.2.2.2.2.2.2.2.1 q (by omega)]
      show nI (f q) = _
      rw [hf q (by omega), hpe]
    have tail : ∀ W : Int32, W = wth wi (wq wi s N) → ∃ so1 f1 μ1, (jn (α := Mm) (fun K27 => (if W ≤ so then K27 μ else (cpI μ (60 + 3) 6 0 13 6 0 6).bind fun μ24 => K27 μ24)) (fun (μ25 : Mm) => lt_ (if W < so then so else W) fun x26 => some (x26, μ25)) : Option (Int32 × Mm)) = some (so1, μ1) ∧ XA s f1 μ0 μ1 ∧ (∀ q, q < p → f1 q = dg p N q) ∧ XB wi (s 0 0) (arr wi (wq wi s) 0 p N C) so1 (μ1 13) := by
      intro W hW
      subst hW
      rw [jn_e]
      rcases leafB (w := wq wi s) hB hx hr with ⟨c1, c2⟩ | ⟨c1, c2⟩
      · rw [if_pos c1]
        exact ⟨_, f, μ, Eq.trans (lt_e _ _) rfl, A, hf, c2⟩
      · rw [if_neg c1, q6, cpI_nI (by omega) (by omega) (by omega), Option.bind_some]
        exact ⟨_, f, _, Eq.trans (lt_e _ _) rfl, ⟨A.1.keep (fun c h1 h2 => p_cf (by omega)), A.2.1, fun c h1 h2 => by rw [p_cf h1]; exact A.2.2 c h1 h2⟩, hf, c2⟩
    rw [jn_e, e1, ite_le (by omega) (by omega), if_pos (by omega), xn, Option.bind_some, jn_e, ite_b0]
    unfold wv at hw
    by_cases cw : wi = true
    · rw [if_pos cw] at hw
      rw [if_pos cw, x_lns A.1 B1 (z := ns (row s 3 f) 0) (by omega), Option.bind_some]
      exact tail _ (by unfold wth; rw [if_pos cw, ← hw])
    · rw [if_neg cw] at hw
      rw [if_neg cw]
      exact tail _ (by unfold wth; rw [if_neg cw, ← hw])
  | succ r ih =>
    intro D p N u f so C μ hp hD hu hb A hf hB
    obtain ⟨D1, rfl⟩ : ∃ N, D = N + 1 := ⟨D - 1, by omega⟩
    have e1 : μ 60 1 = nI (s 0 0) := A.1.1
    have loop : ∀ d j, j + d = 6 → ∀ n, d < n → ∀ x, x = nI j → ∀ so f μ, XA s f μ0 μ → (∀ q, q < p → f q = dg p N q) → XB wi (s 0 0) (af (fun e C => if mm p N e = true then C else arr wi (wq wi s) r (p + 1) (6 * N + e) C) j C) so (μ 13) → ∃ so1 f1 μ1, L_BT_arrange_74 (F_BT_arrange D1) 60 (nI p) (nI u) (b2i wi) (fun (x17 : Int32) (μ18 : Mm) => some (x17, μ18)) n so x μ = some (so1, μ1) ∧ XA s f1 μ0 μ1 ∧ (∀ q, q < p → f1 q = dg p N q) ∧ XB wi (s 0 0) (af (fun e C => if mm p N e = true then C else arr wi (wq wi s) r (p + 1) (6 * N + e) C) 6 C) so1 (μ1 13) := by
      intro d
      induction d with
      | zero =>
        intro j hj n hn x hx so f μ A hf hB
        obtain ⟨N1, rfl⟩ : ∃ N, n = N + 1 := ⟨n - 1, by omega⟩
        have e : j = 6 := by omega
        subst e
        subst hx
        rw [L_BT_arrange_74, if_pos (by decide)]
        exact ⟨so, f, μ, rfl, A, hf, hB⟩
      | succ d ihd =>
        intro j hj n hn x hx so f μ A hf hB
        obtain ⟨N1, rfl⟩ : ∃ N, n = N + 1 := ⟨n - 1, by omega⟩
        subst hx
        rw [L_BT_arrange_74, q6, ite_le (by omega) (by omega), if_neg (by omega), bit_BT u hu j (by omega), Option.bind_some, jn_e, ite_b0]
        by_cases c : u.testBit j = true
        · rw [if_pos c]
          refine ihd (j + 1) (by omega) N1 (by omega) _ (nI_1 j) so f μ A hf ?_
          show XB wi (s 0 0) (if mm p N j = true then _ else _) so (μ 13)
          rw [if_pos (by rw [← hb j (by omega)]; exact c)]
          exact hB
        · have cm : ¬ mm p N j = true := fun q => c (by rw [hb j (by omega)]; exact q)
          rw [if_neg c, wrI_nI (b := 60 + 3) (by omega) (by omega), Option.bind_some, nI_1, mset_1 u hu j (by omega)]
          have A1 : XA s (fun q => if q = p then j else f q) μ0 (up2 μ (60 + 3) p (nI j)) := by
            refine ⟨?_, fun q => ?_, fun c h1 h2 => by rw [u_cf h2]; exact A.2.2 c h1 h2⟩
            · rw [← row_row (g := f)]
              refine SR_row3 A.1 (fun q hq => ?_) (fun c hc => u_cf hc)
              by_cases cq : q = p
              · rw [u_eq rfl cq, if_pos cq]
              · rw [u_nj cq, if_neg cq]
                exact A.1.2.2.2.2.2.2.2.2.2.1 q hq
            · show (if q = p then j else f q) ≤ 5
              have := A.2.1 q
              split <;> omega
          obtain ⟨so1, f1, μ1, g1, g2, g3, g4⟩ := ih D1 (p + 1) (6 * N + j) (mset u j true) (fun q => if q = p then j else f q) so _ _ (by omega) (by omega) ((mset_lt u hu j (by omega)).1) (fun e he => by
            rw [(mset_bit u hu j (by omega) e he).1, mm_s (by omega), hb e he]
            congr 1
            exact decide_eq_decide.mpr ⟨fun h => h.symm, fun h => h.symm⟩) A1 (fun q hq => by
            rw [dg_s (by omega)]
            show (if q = p then j else f q) = _
            by_cases cq : q = p
            · rw [if_pos cq, if_pos cq]
            · rw [if_neg cq, if_neg cq, hf q (by omega)]) (by rw [u_cf (by omega)]; exact hB)
          rw [g1, Option.bind_some]
          simp only []
          refine ihd (j + 1) (by omega) N1 (by omega) _ (nI_1 j) so1 f1 μ1 g2 (fun q hq => by rw [g3 q (by omega), dg_s (by omega), if_neg (by omega)]) ?_
          show XB wi (s 0 0) (if mm p N j = true then _ else _) so1 (μ1 13)
          rw [if_neg cm]
          exact g4
    rw [F_BT_arrange]
    unfold B_BT_arrange
    rw [jn_e, e1, ite_le (by omega) (by omega), if_neg (by omega), q6, ite_lt (by omega) (by omega), if_pos (by omega)]
    exact loop 6 0 (by omega) fu (fu_gt (by omega)) 0 rfl so f μ A hf hB

/-! the reference -/
theorem MT.c33 {σ0 σ : Sg} {μ0 μ : Mm} (T : MT σ0 σ μ0 μ) {j : Nat} {x : Int32} : MT σ0 σ μ0 (up2 μ 33 j x) :=
  ⟨MR_cell T.1 (by omega), T.2.1.mv (fun c hc => u_cf (by omega)) (fun j hj => u_nc (by omega)), (u_nc (by omega)).trans T.2.2.1, T.2.2.2.tr ⟨fun c hc => u_cf (by omega), fun j hj => u_nc (by omega)⟩⟩
def lk : Nat → Nat → Nat → Bool
  | 0, _, _ => true
  | p + 1, N, u => !u.testBit (N % 6) && lk p (N / 6) (mset u (N % 6) true)
theorem lk_okp : ∀ p N u, u < 64 → (lk p N u = true ↔ okp p N = true ∧ ∀ e, e < 6 → mm p N e = true → u.testBit e = false)
  | 0, N, u, _ => ⟨fun _ => ⟨rfl, fun e _ h => by cases h⟩, fun _ => rfl⟩
  | p + 1, N, u, hu => by
    have h6 : N % 6 < 6 := Nat.mod_lt _ (by omega)
    have ih := lk_okp p (N / 6) (mset u (N % 6) true) (mset_lt u hu (N % 6) h6).1
    show (!u.testBit (N % 6) && lk p (N / 6) (mset u (N % 6) true)) = true ↔ (okp p (N / 6) && !mm p (N / 6) (N % 6)) = true ∧ ∀ e, e < 6 → (decide (N % 6 = e) || mm p (N / 6) e) = true → u.testBit e = false
    rw [Bool.and_eq_true, ih, Bool.and_eq_true, Bool.not_eq_true', Bool.not_eq_true']
    constructor
    · rintro ⟨h1, h2, h3⟩
      refine ⟨⟨h2, ?_⟩, fun e he hm => ?_⟩
      · cases hm : mm p (N / 6) (N % 6)
        · rfl
        · have := h3 _ h6 hm
          rw [(mset_bit u hu _ h6 _ h6).1, decide_eq_true rfl] at this
          cases this
      · rcases (Bool.or_eq_true _ _).mp hm with q | q
        · rw [← of_decide_eq_true q]
          exact h1
        · have := h3 e he q
          rw [(mset_bit u hu _ h6 e he).1, Bool.or_eq_false_iff] at this
          exact this.2
    · rintro ⟨⟨h2, h4⟩, h3⟩
      refine ⟨h3 _ h6 (by rw [decide_eq_true rfl]; rfl), h2, fun e he hm => ?_⟩
      rw [(mset_bit u hu _ h6 e he).1, Bool.or_eq_false_iff]
      refine ⟨decide_eq_false (fun q => ?_), h3 e he (by rw [hm, Bool.or_true])⟩
      rw [q, h4] at hm
      cases hm
theorem lk_0 (p N : Nat) : lk p N 0 = okp p N := by
  have h := lk_okp p N 0 (by omega)
  cases a : lk p N 0 <;> cases b : okp p N
  · rfl
  · rw [a, b] at h
    exact absurd (h.mpr ⟨rfl, fun e _ _ => Nat.zero_testBit e⟩) (by decide)
  · rw [a, b] at h
    exact absurd (h.mp rfl).1 (by decide)
  · rfl
theorem layM {σ s : Sg} {μ0 : Mm} (k : Mm → Option (Int32 × Mm)) : ∀ p, p ≤ 6 → ∀ n, p < n → ∀ N u f μ x, x = nI p - 1 → N < 1000000 → u < 64 → MT σ (row s 3 f) μ0 μ → (∀ q, f q ≤ 5) → ∃ f1 μ1, L_M_layPlan_12 k n (nI N) (nI u) x μ = (if lk p N u = true then k μ1 else some (0, μ1)) ∧ MT σ (row s 3 f1) μ0 μ1 ∧ (∀ q, f1 q ≤ 5) ∧ (∀ q, p ≤ q → f1 q = f q) ∧ (lk p N u = true → ∀ q, q < p → f1 q = dg p N q) ∧ ∀ c, c ≠ 6 → μ1 c = μ c := by
  intro p
  induction p with
  | zero =>
    intro _ n hn N u f μ x hx hN hu T hf
    obtain ⟨N1, rfl⟩ : ∃ N, n = N + 1 := ⟨n - 1, by omega⟩
    subst hx
    rw [L_M_layPlan_12, if_pos (show nI 0 - 1 < 0 by decide)]
    exact ⟨f, μ, rfl, T, hf, fun _ _ => rfl, fun _ q hq => absurd hq (Nat.not_lt_zero q), fun _ _ => rfl⟩
  | succ p ih =>
    intro hp n hn N u f μ x hx hN hu T hf
    obtain ⟨N1, rfl⟩ : ∃ N, n = N + 1 := ⟨n - 1, by omega⟩
    have h6 : N % 6 < 6 := Nat.mod_lt _ (by omega)
    have hx' : x = nI p := hx.trans (nI_s p 1)
    subst hx'
    have T1 : MT σ (row s 3 (fun q => if q = p then N % 6 else f q)) μ0 (up2 μ 6 p (nI (N % 6))) := by
      rw [← row_row (g := f)]
      refine T.step (MR_row3 T.1 (fun q hq => ?_) (fun c hc => u_cf hc)) (fun c _ h _ _ => u_cf h) (fun j _ => u_nc (by omega))
      by_cases cq : q = p
      · rw [u_eq rfl cq, if_pos cq]
      · rw [u_nj cq, if_neg cq]
        exact T.1.2.2.2.2.2.2.1 q hq
    have hf1 : ∀ q, (if q = p then N % 6 else f q) ≤ 5 := fun q => by
      have := hf q
      split <;> omega
    have el : lk (p + 1) N u = (!u.testBit (N % 6) && lk p (N / 6) (mset u (N % 6) true)) := rfl
    rw [L_M_layPlan_12, if_neg (nn_not_neg (by omega)), q6, nI_remP (by omega) (by omega) (by omega), wrI_nI (by omega) (by omega), Option.bind_some, rdI_nI (by omega) (by omega), Option.bind_some, u_eq rfl rfl, bit_M u hu _ h6, Option.bind_some, ite_b0]
    by_cases c : u.testBit (N % 6) = true
    · rw [if_pos c, el, c]
      exact ⟨_, _, rfl, T1, hf1, fun q hq => if_neg (by omega), fun h _ _ => absurd (show false = true from h) (by decide), fun c hc => u_cf hc⟩
    · have c' : u.testBit (N % 6) = false := by
        cases h : u.testBit (N % 6)
        · rfl
        · exact absurd h c
      rw [if_neg c, Option.bind_some, lt_e, mset_1 u hu _ h6, pk_div (by omega) (by omega) (by omega)]
      obtain ⟨f1, μ1, a1, a2, a3, a4, a5, a6⟩ := ih (by omega) N1 (by omega) (N / 6) (mset u (N % 6) true) (fun q => if q = p then N % 6 else f q) _ _ (add_m1 (nI p)) (by omega) (mset_lt u hu _ h6).1 T1 hf1
      rw [el, c']
      refine ⟨f1, μ1, a1, a2, a3, fun q hq => (a4 q (by omega)).trans (if_neg (by omega)), fun h q hq => ?_, fun c hc => (a6 c hc).trans (u_cf hc)⟩
      show f1 q = if q = p then N % 6 else dg p (N / 6) q
      by_cases cq : q = p
      · rw [if_pos cq, a4 q (by omega)]
        exact if_pos cq
      · rw [if_neg cq]
        exact a5 h q (by omega)
theorem layP {σ s : Sg} {μ0 μ : Mm} {N : Nat} {f : Nat → Nat} (h66 : s 0 0 ≤ 6) (hN : N < 1000000) (T : MT σ (row s 3 f) μ0 μ) (hf : ∀ q, f q ≤ 5) : ∃ f1 μ1, F_M_layPlan (nI N) μ = some (b2i (okp (s 0 0) N), μ1) ∧ MT σ (row s 3 f1) μ0 μ1 ∧ (∀ q, f1 q ≤ 5) ∧ (okp (s 0 0) N = true → ∀ q, q < s 0 0 → f1 q = dg (s 0 0) N q) ∧ ∀ c, c ≠ 6 → μ1 c = μ c := by
  have e0 : μ 0 0 = nI (s 0 0) := T.1.1
  obtain ⟨f1, μ1, a1, a2, a3, a4, a5, a6⟩ := layM (fun (μ11 : Mm) => some (1, μ11)) (s 0 0) h66 fu (fu_gt (by omega)) N 0 f μ (nI (s 0 0) - 1) rfl hN (by omega) T hf
  rw [lk_0] at a1 a5
  refine ⟨f1, μ1, ?_, a2, a3, a5, a6⟩
  unfold F_M_layPlan
  rw [e0]
  refine a1.trans ?_
  cases okp (s 0 0) N <;> rfl
theorem bestCopy {σ s : Sg} {μ0 : Mm} {f : Nat → Nat} (y1 y2 y3 y4 : Int32) (k : Mm → Option (Int32 × Mm)) : ∀ d j, j + d = 6 → ∀ n, d < n → ∀ x, x = nI j → ∀ μ, MT σ (row s 3 f) μ0 μ → (∀ q, q < j → μ 33 q = nI (f q)) → ∃ μ1, L_M_layBest_105 y1 y2 y3 y4 k n x μ = k μ1 ∧ MT σ (row s 3 f) μ0 μ1 ∧ ∀ q, q < 6 → μ1 33 q = nI (f q) := by
  intro d
  induction d with
  | zero =>
    intro j hj n hn x hx μ T h
    obtain ⟨N1, rfl⟩ : ∃ N, n = N + 1 := ⟨n - 1, by omega⟩
    have e : j = 6 := by omega
    subst e
    subst hx
    rw [L_M_layBest_105, if_pos (by decide)]
    exact ⟨μ, rfl, T, h⟩
  | succ d ih =>
    intro j hj n hn x hx μ T h
    obtain ⟨N1, rfl⟩ : ∃ N, n = N + 1 := ⟨n - 1, by omega⟩
    subst hx
    have e6 : μ 6 j = nI (f j) := T.1.2.2.2.2.2.2.1 j (by omega)
    rw [L_M_layBest_105, q6, ite_le (by omega) (by omega), if_neg (by omega), rdI_nI (by omega) (by omega), Option.bind_some, e6, wrI_nI (by omega) (by omega), Option.bind_some]
    refine ih (j + 1) (by omega) N1 (by omega) _ (nI_1 j) _ T.c33 (fun q hq => ?_)
    by_cases c : q = j
    · rw [u_eq rfl c, c]
    · rw [u_nj c]
      exact h q (by omega)
def MB (P : Nat) : Option (Nat × Nat) → Int32 → (Nat → Int32) → Prop
  | none, so, _ => so = -5
  | some (v, N), so, r => v < 1000000 ∧ so = nI v ∧ ∀ p, p < P → r p = nI (dg P N p)
def btB (wi : Bool) (x : Nat) : Option (Nat × Nat) → Bool
  | none => true
  | some (v, _) => btr wi x v
theorem upB_bt (wi : Bool) (w : Nat → Nat) (N : Nat) (B : Option (Nat × Nat)) : upB wi w N B = if btB wi (w N) B = true then some (w N, N) else B := by
  cases B <;> rfl
theorem leafM {α : Type} {wi : Bool} {P x : Nat} {B : Option (Nat × Nat)} {so : Int32} {r : Nat → Int32} (hB : MB P B so r) (hx : x < 1000000) (K3 K7 : α) : (if so < 0 then K3 else (if b2i (!wi) = 0 then (if so < nI x then K3 else K7) else (if nI x < so then K3 else K7))) = if btB wi x B = true then K3 else K7 := by
  cases B with
  | none =>
    have hB' : so = -5 := hB
    subst hB'
    rw [if_pos (by decide)]
    rfl
  | some y =>
    obtain ⟨v, M⟩ := y
    obtain ⟨h1, h2, h3⟩ := hB
    subst h2
    rw [if_neg (nn_not_neg (by omega)), ite_lt (by omega) (by omega), ite_lt (by omega) (by omega)]
    show _ = if btr wi x v = true then K3 else K7
    unfold btr
    cases wi
    · show (if x < v then K3 else K7) = if decide (x < v) = true then K3 else K7
      simp only [decide_eq_true_eq]
    · show (if v < x then K3 else K7) = if decide (v < x) = true then K3 else K7
      simp only [decide_eq_true_eq]
def gB (wi : Bool) (s : Sg) : Nat → Option (Nat × Nat) → Option (Nat × Nat) := fun j C => if okp (s 0 0) j = true then upB wi (wq wi s) j C else C
theorem bestM {rs : Rsp} (wi : Bool) {σ s : Sg} {μ0 : Mm} (K : MK rs μ0) (O : MO rs σ) (hb : SB σ s) (B : BW s) (A : Nat) (hA : A < 100000) (k : Int32 → Mm → Option (Int32 × Mm)) : ∀ d j, j + d = A → ∀ n, d < n → ∀ x, x = nI j → ∀ so f μ, MT σ (row s 3 f) μ0 μ → (∀ q, f q ≤ 5) → MB (s 0 0) (af (gB wi s) j none) so (μ 33) → ∃ so1 f1 μ1, L_M_layBest_38 (b2i (!wi)) (nI A) k n so x μ = k so1 μ1 ∧ MT σ (row s 3 f1) μ0 μ1 ∧ MB (s 0 0) (af (gB wi s) A none) so1 (μ1 33) := by
  have h66 := B.1
  intro d
  induction d with
  | zero =>
    intro j hj n hn x hx so f μ T hf hB
    obtain ⟨N1, rfl⟩ : ∃ N, n = N + 1 := ⟨n - 1, by omega⟩
    have e : j = A := by omega
    subst e
    subst hx
    rw [L_M_layBest_38, ite_le (by omega) (by omega), if_pos (Nat.le_refl _)]
    exact ⟨so, f, μ, rfl, T, hB⟩
  | succ d ih =>
    intro j hj n hn x hx so f μ T hf hB
    obtain ⟨N1, rfl⟩ : ∃ N, n = N + 1 := ⟨n - 1, by omega⟩
    subst hx
    obtain ⟨f1, μ1, a1, a2, a3, a4, a5⟩ := layP (N := j) h66 (by omega) T hf
    have hB1 : MB (s 0 0) (af (gB wi s) j none) so (μ1 33) := by rw [a5 33 (by omega)]; exact hB
    have ej : af (gB wi s) (j + 1) none = if okp (s 0 0) j = true then upB wi (wq wi s) j (af (gB wi s) j none) else af (gB wi s) j none := rfl
    rw [L_M_layBest_38, ite_le (by omega) (by omega), if_neg (by omega), a1, Option.bind_some]
    simp only []
    rw [jn_e, ite_b0]
    by_cases c : okp (s 0 0) j = true
    · rw [if_pos c] at ej ⊢
      have sb : SB σ (row s 3 f1) := hb.tr (SB.row (by omega))
      have B1 : BW (row s 3 f1) := BW_row3 B a3
      obtain ⟨μ2, b1, b2⟩ := m_noise a2.1 (K.my a2.2.2.2) (O.sb sb) B1
      obtain ⟨μ3, c1, c2⟩ := m_allLearn a2.1 (K.my a2.2.2.2) (O.sb sb) B1
      have hw : (if wi = true then lns (row s 3 f1) (ns (row s 3 f1) 0) else ns (row s 3 f1) 0) = wq wi s j := wv_row (s := s) (fun q hq => a4 c q hq)
      have hx := wq_lt (wi := wi) B j
      rw [upB_bt] at ej
      have tail : ∀ w μ4, w = wq wi s j → P26 μ1 μ4 → ∃ so1 f1 μ5, (jn (α := Unit) (fun K33 => (if so < 0 then K33 () else (if b2i (!wi) = 0 then (if so < nI w then K33 () else L_M_layBest_38 (b2i (!wi)) (nI A) k N1 so (nI j + 1) μ4) else (if nI w < so then K33 () else L_M_layBest_38 (b2i (!wi)) (nI A) k N1 so (nI j + 1) μ4)))) (fun (_ : Unit) => L_M_layBest_105 (b2i (!wi)) (nI A) (nI w) (nI j) (fun (μ32 : Mm) => L_M_layBest_38 (b2i (!wi)) (nI A) k N1 (nI w) (nI j + 1) μ32) fu 0 μ4) : Option (Int32 × Mm)) = k so1 μ5 ∧ MT σ (row s 3 f1) μ0 μ5 ∧ MB (s 0 0) (af (gB wi s) A none) so1 (μ5 33) := by
        intro w μ4 hww P4
        subst hww
        have T4 := a2.p26 P4
        have hB4 : MB (s 0 0) (af (gB wi s) j none) so (μ4 33) := by rw [P4 33 (by omega)]; exact hB1
        rw [jn_e, leafM hB1 hx]
        by_cases e : btB wi (wq wi s j) (af (gB wi s) j none) = true
        · rw [if_pos e] at ej ⊢
          obtain ⟨μ5, d1, d2, d3⟩ := bestCopy (b2i (!wi)) (nI A) (nI (wq wi s j)) (nI j) (fun (μ32 : Mm) => L_M_layBest_38 (b2i (!wi)) (nI A) k N1 (nI (wq wi s j)) (nI j + 1) μ32) 6 0 (by omega) fu (fu_gt (by omega)) 0 rfl μ4 T4 (fun q hq => absurd hq (Nat.not_lt_zero q))
          obtain ⟨so1, f2, μ6, g1, g2, g3⟩ := ih (j + 1) (by omega) N1 (by omega) (nI j + 1) (nI_1 j) (nI (wq wi s j)) f1 μ5 d2 a3 (by rw [ej]; exact ⟨hx, rfl, fun q hq => by rw [d3 q (by omega), a4 c q hq]⟩)
          exact ⟨so1, f2, μ6, d1.trans g1, g2, g3⟩
        · rw [if_neg e] at ej ⊢
          exact ih (j + 1) (by omega) N1 (by omega) (nI j + 1) (nI_1 j) so f1 μ4 T4 a3 (by rw [ej]; exact hB4)
      rw [jn_e]
      by_cases cw : wi = true
      · rw [if_pos cw] at hw
        rw [if_pos (show b2i (!wi) = 0 by rw [cw]; rfl), c1, Option.bind_some]
        exact tail _ _ hw c2
      · rw [if_neg cw] at hw
        rw [if_neg (show ¬ b2i (!wi) = 0 by cases wi; decide; exact absurd rfl cw), b1, Option.bind_some]
        exact tail _ _ hw b2
    · rw [if_neg c] at ej ⊢
      exact ih (j + 1) (by omega) N1 (by omega) _ (nI_1 j) so f1 μ1 a2 a3 (by rw [ej]; exact hB1)
theorem pow6 (y : Int32) {μ : Mm} (k : Int32 → Option (Int32 × Mm)) {P : Nat} (h : μ 0 0 = nI P) (hP : P ≤ 6) : ∀ d j, j + d = P → ∀ n, d < n → ∀ x z, x = nI j → z = nI (6 ^ j) → L_M_layBest_13 y μ k n z x = k (nI (6 ^ P)) := by
  intro d
  induction d with
  | zero =>
    intro j hj n hn x z hx hz
    obtain ⟨N1, rfl⟩ : ∃ N, n = N + 1 := ⟨n - 1, by omega⟩
    have e : j = P := by omega
    subst e
    subst hx hz
    rw [L_M_layBest_13, h, ite_le (by omega) (by omega), if_pos (Nat.le_refl _)]
  | succ d ih =>
    intro j hj n hn x z hx hz
    obtain ⟨N1, rfl⟩ : ∃ N, n = N + 1 := ⟨n - 1, by omega⟩
    subst hx hz
    rw [L_M_layBest_13, h, ite_le (by omega) (by omega), if_neg (show ¬ P ≤ j by omega), q6, pk_mul]
    exact ih (j + 1) (by omega) N1 (by omega) _ _ (nI_1 j) rfl
theorem row_self {s : Sg} {i : Nat} : row s i (s i) = s := by
  funext a
  show (if a = i then s i else s a) = s a
  by_cases h : a = i
  · rw [if_pos h, h]
  · rw [if_neg h]
theorem MT.back33 {σ0 σ : Sg} {μ0 μ : Mm} (T : MT σ0 σ μ0 μ) (h : SB σ0 σ) : ∃ μ1, F_M_putBack μ = some μ1 ∧ MR σ0 μ1 ∧ μ1 0 27 = 9999 ∧ MY μ0 μ1 ∧ μ1 33 = μ 33 := by
  obtain ⟨T1, T2, T3, T4⟩ := T
  have hb : BR σ0 μ := by
    have e1 := h.2 1 (by omega) (by omega) (by omega)
    have e2 := h.2 2 (by omega) (by omega) (by omega)
    have e5 := h.2 5 (by omega) (by omega) (by omega)
    unfold MR at T1
    rw [h.1 0 (by omega), e1, e2, e5] at T1
    exact ⟨T1.1, T1.2.2.2.2.1, T1.2.2.2.2.2.1, T1.2.2.2.2.2.2.2.2⟩
  obtain ⟨μ1, e, a, b, c, d⟩ := m_back hb T2
  exact ⟨μ1, e, a, b, T4.tr ⟨fun x hx => c x (by omega) (by omega) (by omega), fun j hj => d j (by omega) (by omega)⟩, c 33 (by omega) (by omega) (by omega)⟩
theorem m_best {rs : Rsp} (wi : Bool) {σ : Sg} {μ : Mm} (S : MR σ μ) (K : MK rs μ) (O : MO rs σ) (B : BW σ) : ∃ v N μ1, F_M_layBest (b2i (!wi)) μ = some (nI v, μ1) ∧ af (gB wi (ups σ 0 2 0)) (6 ^ σ 0 0) none = some (v, N) ∧ (∀ p, p < σ 0 0 → μ1 33 p = nI (dg (σ 0 0) N p)) ∧ MR σ μ1 ∧ μ1 0 27 = 9999 ∧ MY μ μ1 := by
  have h66 := B.1
  obtain ⟨μ1, a1, a2⟩ := MT.save S
  have T : MT σ (row (ups σ 0 2 0) 3 (σ 3)) μ (up2 μ1 0 2 0) := by
    rw [show row (ups σ 0 2 0) 3 (σ 3) = ups σ 0 2 0 from row_self (s := ups σ 0 2 0) (i := 3)]
    exact a2.step (MR_wear (v := 0) a2.1) (fun c h0 _ _ _ => u_cf h0) (fun j hj => u_nj (by omega))
  have hP : 6 ^ σ 0 0 < 100000 := by
    have : 6 ^ σ 0 0 ≤ 6 ^ 6 := Nat.pow_le_pow_right (by omega) h66
    have : 6 ^ 6 = 46656 := by decide
    omega
  obtain ⟨so1, f1, μ2, b1, b2, b3⟩ := bestM wi K O (SB.ups (j := 2) (v := 0) (by omega)) (BW_wear B (v := 0) (by omega)) (6 ^ σ 0 0) hP (fun (x38 : Int32) (μ39 : Mm) => (F_M_putBack μ39).bind fun μ40 => some (x38, μ40)) (6 ^ σ 0 0) 0 (by omega) fu hP 0 rfl (-5) (σ 3) _ T B.2.2.2.2.2.2.2.2.1 rfl
  obtain ⟨j, hj, hk⟩ := first_plan (σ 0 0) h66
  obtain ⟨⟨v, N⟩, e⟩ := af_some (wi := wi) (w := wq wi (ups σ 0 2 0)) hk (6 ^ σ 0 0) hj
  have e' : af (gB wi (ups σ 0 2 0)) (6 ^ σ 0 0) none = some (v, N) := e
  rw [e'] at b3
  obtain ⟨v1, v2, v3⟩ := b3
  obtain ⟨μ3, c1, c2, c3, c4, c5⟩ := b2.back33 ((SB.ups (j := 2) (v := 0) (by omega)).tr (SB.row (by omega)))
  have e0 : up2 μ1 0 2 0 0 0 = nI (σ 0 0) := T.1.1
  unfold F_M_layBest
  rw [a1, Option.bind_some, lt_e, pow6 _ _ e0 h66 (σ 0 0) 0 (by omega) fu (fu_gt (by omega)) 0 1 rfl rfl, b1, c1, Option.bind_some, v2]
  exact ⟨v, N, μ3, rfl, e', fun p hp => by rw [c5]; exact v3 p hp, c2, c3, c4⟩
theorem x_best (wi : Bool) {σ : Sg} {μ : Mm} (S : SR 40 σ μ) (X : SX 40 σ μ) (B : BW σ) (C : BX σ) {v N : Nat} (h : af (gB wi (ups σ 0 2 0)) (6 ^ σ 0 0) none = some (v, N)) : ∃ μ3 μ1, F_BT_plansFromNow μ = some μ3 ∧ F_BT_arrange 8 60 0 0 (b2i wi) (-1000000000) μ3 = some (wth wi v, μ1) ∧ (∀ p, p < σ 0 0 → μ1 13 p = nI (dg (σ 0 0) N p)) ∧ XJ μ μ1 := by
  have h66 := B.1
  obtain ⟨μ1, a1, a2⟩ := XT.start S X C (μ := μ) Off.rf
  have a3 := a2.wear0
  have A : XA (ups σ 0 2 0) (σ 3) (up2 μ1 60 3 0) (up2 μ1 60 3 0) := by
    refine ⟨?_, B.2.2.2.2.2.2.2.2.1, fun _ _ _ => rfl⟩
    rw [show row (ups σ 0 2 0) 3 (σ 3) = ups σ 0 2 0 from row_self (s := ups σ 0 2 0) (i := 3)]
    exact a3.1
  obtain ⟨so1, f1, μ2, b1, b2, b3, b4⟩ := arrX wi (BW_wear B (v := 0) (by omega)) (σ 0 0) 8 0 0 0 (σ 3) (-1000000000) none _ (Nat.zero_add _) (by omega) (by omega) (fun e _ => Nat.zero_testBit e) A (fun q hq => absurd hq (Nat.not_lt_zero q)) rfl
  have e := blk wi (wq wi (ups σ 0 2 0)) (σ 0 0) 0 0 none
  simp only [Nat.zero_mul, Nat.zero_add] at e
  have e' : af (gB wi (ups σ 0 2 0)) (6 ^ σ 0 0) none = arr wi (wq wi (ups σ 0 2 0)) (σ 0 0) 0 0 none := e
  rw [← e', h] at b4
  obtain ⟨v1, v2, v3⟩ := b4
  unfold F_BT_plansFromNow
  rw [a1, Option.bind_some, lt_e]
  refine ⟨_, μ2, rfl, by rw [← v2]; exact b1, v3, fun c h1 h13 hc => (b2.2.2 c h13 (by omega)).trans (a3.2.2 c (by omega)), ?_⟩
  rw [b2.2.2 1 (by omega) (by omega), a3.2.2 1 (by omega)]
section CMD
variable {μ μ' : Mm} {ν ν' : Ml}
theorem plan_core {n L : Nat} {rsf : Nat → Rsp} {tx : Nat → Nat} {σ τ : Sg} {im : Bool} (h1 : RR n rsf μ μ') (h2 : TX n L tx μ μ') (hs : SR 40 σ μ ∧ SX 40 σ μ ∧ MR σ μ' ∧ MX σ μ' ∧ GS n rsf σ) (h8 : IM n rsf im τ μ μ') (h9 : TR μ μ') (h10 : TP μ ν μ' ν') (h11 : LT μ') (h12 : μ' 0 27 = 9999) (wi : Bool) : ∃ v N μ3 μ1 μ1', F_BT_plansFromNow μ = some μ3 ∧ F_BT_arrange 8 60 0 0 (b2i wi) (-1000000000) μ3 = some (wth wi v, μ1) ∧ F_M_layBest (b2i (!wi)) μ' = some (nI v, μ1') ∧ (∀ p, p < σ 0 0 → μ1 13 p = nI (dg (σ 0 0) N p) ∧ μ1' 33 p = nI (dg (σ 0 0) N p)) ∧ Inv μ1 ν μ1' ν' := by
  obtain ⟨h3, h4, h5, h6, h7⟩ := id hs
  have K : MK (rsH rsf (σ 16 0)) μ' := Inv_MK h1 h7.2.2.2.1 h6.1
  obtain ⟨v, N, μ1', b1, b2, b3, b4, b5, b6⟩ := m_best wi h5 K h7.2.2.1 h7.1
  obtain ⟨μ3, μ1, a1, a2, a3, a4⟩ := x_best wi h3 h4 h7.1 h7.2.1 b2
  exact ⟨v, N, μ3, μ1, μ1', a1, a2, b1, fun p hp => ⟨a3 p hp, b3 p hp⟩, (Inv.ask h1 h2 hs h8 h9 h10 h11 h12 Off.rf b6 b4 b5).j a4 MJ.rf⟩
theorem st_quietest (I : Inv μ ν μ' ν') (a : Int32) : ∃ r μ1 μ1', F_BT_quietest a μ = some (r, μ1) ∧ F_M_quietest a μ' = some (r, μ1') ∧ Inv μ1 ν μ1' ν' := by
  obtain ⟨n, rsf, L, tx, σ, τ, im, h1, h2, hs, h8, h9, h10, h11, h12⟩ := id I
  have B := hs.2.2.2.2.1
  have h66 := B.1
  obtain ⟨v, N, μ3, μ1, μ1', c1, c2, c3, c4, c5⟩ := plan_core h1 h2 hs h8 h9 h10 h11 h12 false
  have c2' : F_BT_arrange 8 60 0 0 0 (-1000000000) μ3 = some (-nI v, μ1) := c2
  have c3' : F_M_layBest 1 μ' = some (nI v, μ1') := c3
  unfold F_BT_quietest F_M_quietest
  rw [jn_e, jn_e, c1, Option.bind_some, c2', Option.bind_some, c3', Option.bind_some]
  simp only []
  by_cases c0 : a = 0
  · rw [if_pos c0, if_pos c0, if_pos c0, if_pos c0, neg_n]
    exact ⟨_, _, _, rfl, rfl, c5⟩
  · rw [if_neg c0, if_neg c0, if_neg c0, if_neg c0]
    rcases ofp_c hs.1 hs.2.2.1 B a with ⟨p, hp, e1, e2, e3, e4⟩ | ⟨e3, e4⟩
    · rw [e3, e4, Option.bind_some, Option.bind_some, if_neg one_ne, if_neg one_ne, e2, rdI_nI (by omega) (by omega), rdI_nI (by omega) (by omega), Option.bind_some, Option.bind_some, (c4 p hp).1, (c4 p hp).2]
      exact ⟨_, _, _, rfl, rfl, c5⟩
    · rw [e3, e4, Option.bind_some, Option.bind_some, if_pos rfl, if_pos rfl]
      exact ⟨_, _, _, rfl, rfl, I⟩
theorem st_wisest (I : Inv μ ν μ' ν') (a : Int32) : ∃ r μ1 μ1', F_BT_wisest a μ = some (r, μ1) ∧ F_M_wisest a μ' = some (r, μ1') ∧ Inv μ1 ν μ1' ν' := by
  obtain ⟨n, rsf, L, tx, σ, τ, im, h1, h2, hs, h8, h9, h10, h11, h12⟩ := id I
  have B := hs.2.2.2.2.1
  have h66 := B.1
  obtain ⟨v, N, μ3, μ1, μ1', c1, c2, c3, c4, c5⟩ := plan_core h1 h2 hs h8 h9 h10 h11 h12 true
  have c2' : F_BT_arrange 8 60 0 0 1 (-1000000000) μ3 = some (nI v, μ1) := c2
  have c3' : F_M_layBest 0 μ' = some (nI v, μ1') := c3
  unfold F_BT_wisest F_M_wisest
  rw [jn_e, jn_e, c1, Option.bind_some, c2', Option.bind_some, c3', Option.bind_some]
  simp only []
  by_cases c0 : a = 0
  · rw [if_pos c0, if_pos c0, if_pos c0, if_pos c0]
    exact ⟨_, _, _, rfl, rfl, c5⟩
  · rw [if_neg c0, if_neg c0, if_neg c0, if_neg c0]
    rcases ofp_c hs.1 hs.2.2.1 B a with ⟨p, hp, e1, e2, e3, e4⟩ | ⟨e3, e4⟩
    · rw [e3, e4, Option.bind_some, Option.bind_some, if_neg one_ne, if_neg one_ne, e2, rdI_nI (by omega) (by omega), rdI_nI (by omega) (by omega), Option.bind_some, Option.bind_some, (c4 p hp).1, (c4 p hp).2]
      exact ⟨_, _, _, rfl, rfl, c5⟩
    · rw [e3, e4, Option.bind_some, Option.bind_some, if_pos rfl, if_pos rfl]
      exact ⟨_, _, _, rfl, rfl, I⟩
end CMD
