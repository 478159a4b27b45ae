/-! rooms: what a good text comes to, in the tables and in the class -/
def lst (w : Nat) : List Cl → Nat → Nat
  | [], r => r
  | c :: cs, r => lst w cs (if c.1 = w then c.2.1 else r)
theorem lst_le {w : Nat} : ∀ (cs : List Cl) (r : Nat), (∀ c, c ∈ cs → GC c) → r ≤ 99 → lst w cs r ≤ 99
  | [], r, _, h => h
  | c :: cs, r, hg, h => by
    refine lst_le cs _ (fun x hx => hg x (List.mem_cons_of_mem c hx)) ?_
    have := (hg c (List.mem_cons_self ..)).2.1
    split <;> omega
theorem lst_2 {en : Nat → Nat} : ∀ (cs : List Cl) (r : Nat) (m : Mo), max 1 r = m.2.2.1 → max 1 (lst 2 cs r) = (cls en cs m).2.2.1
  | [], _, _, h => h
  | c :: cs, r, m, h => by
    refine lst_2 cs _ _ ?_
    unfold cl1
    by_cases c2 : c.1 = 2
    · rw [if_pos c2, if_pos c2]
    · rw [if_neg c2, if_neg c2]
      split
      · exact h
      · split
        · split
          · exact h
          · exact h
        · exact h
theorem lst_3 {en : Nat → Nat} : ∀ (cs : List Cl) (r : Nat) (m : Mo), max 1 r = m.2.2.2 → max 1 (lst 3 cs r) = (cls en cs m).2.2.2
  | [], _, _, h => h
  | c :: cs, r, m, h => by
    refine lst_3 cs _ _ ?_
    unfold cl1
    by_cases c2 : c.1 = 2
    · rw [if_pos c2, if_neg (by omega)]
      exact h
    · rw [if_neg c2]
      by_cases c3 : c.1 = 3
      · rw [if_pos c3, if_pos c3]
      · rw [if_neg c3, if_neg c3]
        split
        · split
          · exact h
          · exact h
        · exact h
theorem m_lastL {f N : Nat} {μ : Mm} (hH : HD f N μ) {w : Nat} (hw : w < 100) (k : Int32 → Option Int32) : ∀ (cs : List Cl) (C a r n : Nat), C + cs.length = 10 * f + N → (∀ c, c ∈ cs → GC c) → TS C cs a μ → cs.length < n → L_M_lastOf_8 (nI w) μ k n (nI r) (nI C) = k (nI (lst w cs r))
  | [], C, a, r, n, hC, hg, hT, hn => by
    obtain ⟨N1, rfl⟩ : ∃ N, n = N + 1 := ⟨n - 1, by have : ([] : List Cl).length = 0 := rfl; omega⟩
    have hf := hH.2.2
    have hC' : C = 10 * f + N := hC
    rw [L_M_lastOf_8, hH.bh, Option.bind_some, ite_le (by omega) (by omega), if_pos (by omega)]
    rfl
  | c :: cs, C, a, r, n, hC, hg, hT, hn => by
    obtain ⟨N1, rfl⟩ : ∃ N, n = N + 1 := ⟨n - 1, by omega⟩
    have hf := hH.2.2
    have hC' : C + (cs.length + 1) = 10 * f + N := hC
    have hn' : cs.length + 1 < N1 + 1 := hn
    obtain ⟨⟨t1, t2, t3⟩, t4⟩ := hT
    obtain ⟨g1, g2, g3, g4⟩ := hg c (List.mem_cons_self ..)
    have ih := fun r => m_lastL hH hw k cs (C + 1) (a + c.2.2.1.length) r N1 (by omega) (fun x hx => hg x (List.mem_cons_of_mem c hx)) t4 (by omega)
    rw [L_M_lastOf_8, hH.bh, Option.bind_some, ite_le (by omega) (by omega), if_neg (by omega), rdI_nI (by omega) (by omega), t1, Option.bind_some, jn_e, rdI_nI (by omega) (by omega), t2, Option.bind_some, ite_eq (by omega) (by omega), nI_1]
    show _ = k (nI (lst w cs (if c.1 = w then c.2.1 else r)))
    by_cases e : c.1 = w
    · rw [if_pos e, if_pos e]; exact ih _
    · rw [if_neg e, if_neg e]; exact ih _
theorem m_last {f N : Nat} {μ : Mm} (hH : HD f N μ) {w r : Nat} (hw : w < 100) (hr : r ≤ 99) {cs : List Cl} {a : Nat} (hN : cs.length = N) (hg : ∀ c, c ∈ cs → GC c) (hT : TS (10 * f) cs a μ) : F_M_lastOf (nI w) (nI r) μ = some (nI (max 1 (lst w cs r))) := by
  have hl := lst_le (w := w) cs r hg hr
  have hf := hH.2.2
  unfold F_M_lastOf
  rw [hH.bg, Option.bind_some, m_lastL hH hw _ cs (10 * f) a r fu (by omega) hg hT (fu_gt (by omega)), q1, ite_le (by omega) (by omega)]
  by_cases c : 1 ≤ lst w cs r
  · rw [if_pos c, Nat.max_eq_right c]
  · rw [if_neg c, Nat.max_eq_left (by omega)]
def rsO (cs : List Cl) : Rsp := (max 1 (lst 2 cs 3), max 1 (lst 3 cs 4), fun p d kd v => (cls (en p d kd v) cs (3, 0, 3, 4)).1 - (cls (en p d kd v) cs (3, 0, 3, 4)).2.1)
theorem cls_3 {en : Nat → Nat} {cs : List Cl} (hg : ∀ c, c ∈ cs → GC c) (hn : cs.length ≤ 10) : (cls en cs (3, 0, 3, 4)).1 ≤ 1000 ∧ (cls en cs (3, 0, 3, 4)).2.1 ≤ 1000 := by
  obtain ⟨a, b, _, _⟩ := cls_b (en := en) cs (3, 0, 3, 4) 3 (fun c hc => ⟨(hg c hc).1, (hg c hc).2.1⟩) (Nat.le_refl 3) (Nat.zero_le 3) ⟨by decide, by decide⟩ ⟨by decide, by decide⟩
  exact ⟨by omega, by omega⟩
theorem RB_O {cs : List Cl} (hg : ∀ c, c ∈ cs → GC c) (hn : cs.length ≤ 10) : RB (rsO cs) := by
  have h2 := lst_le (w := 2) cs 3 hg (by omega)
  have h3 := lst_le (w := 3) cs 4 hg (by omega)
  refine ⟨(show 1 ≤ max 1 (lst 2 cs 3) ∧ max 1 (lst 2 cs 3) ≤ 99 by omega), (show 1 ≤ max 1 (lst 3 cs 4) ∧ max 1 (lst 3 cs 4) ≤ 99 by omega), fun p d kd v => ?_⟩
  have := (cls_3 (en := en p d kd v) hg hn).1
  show (cls (en p d kd v) cs (3, 0, 3, 4)).1 - (cls (en p d kd v) cs (3, 0, 3, 4)).2.1 ≤ 1000
  omega
theorem MKi_O {i : Nat} {cs : List Cl} {μ : Mm} (hi : i ≤ 5) (hg : ∀ c, c ∈ cs → GC c) (hn : cs.length ≤ 10) (hs : sml cs ≤ 100) (h15 : μ 15 i = nI cs.length) (hT : TS (10 * i) cs (100 * i) μ) : MKi i (rsO cs) μ := by
  intro μ' b1 b2 b3 b4
  have hH : HD i cs.length μ' := ⟨b1, b2.trans h15, hi, hn⟩
  have hT' : TS (10 * i) cs (100 * i) μ' := hT.mv (fun x a b q c d => b3 x q a b c (by omega)) (fun q c d => b4 q c (by omega))
  refine ⟨?_, ?_, fun p d kd v hp hd hk hv e1 e2 => ?_⟩
  · unfold F_M_wears
    rw [show (2 : Int32) = nI 2 from rfl, show (3 : Int32) = nI 3 from rfl, m_last hH (by omega) (by omega) rfl hg hT', Option.bind_some]
    rfl
  · unfold F_M_cost
    rw [show (3 : Int32) = nI 3 from rfl, show (4 : Int32) = nI 4 from rfl, m_last hH (by omega) (by omega) rfl hg hT', Option.bind_some]
    rfl
  · have cb := cls_3 (en := en p d kd v) hg hn
    obtain ⟨μ1, a1, a2⟩ := m_mouthL (f := i) (N := cs.length) hp hd hk hv (fun (x22 : Int32) (μ23 : Mm) => (F_M_least0 x22).bind fun v24 => some (v24, μ23)) cs (10 * i) (100 * i) (3, 0, 3, 4) fu μ' hH rfl hg (by omega) hT' (fu_gt (by omega)) e1 e2
    unfold F_M_mouth
    rw [hH.bg, Option.bind_some]
    refine ⟨μ1, Eq.trans a1 ?_, a2⟩
    show (F_M_least0 (nI (cls (en p d kd v) cs (3, 0, 3, 4)).1 - nI (cls (en p d kd v) cs (3, 0, 3, 4)).2.1)).bind (fun v24 => some (v24, μ1)) = _
    unfold F_M_least0
    rw [mx0' (by omega) (by omega), Option.bind_some]
    rfl
theorem XKr_O {i L : Nat} {tx : Nat → Nat} {cs : List Cl} {μ : Mm} (hi : i ≤ 6) (hL : L ≤ 100) (h10 : μ 10 i = nI L) (ht : ∀ j, j < L → tx j < 128 ∧ μ (3 + i) j = nI (tx j)) (hX : pX (sgn L tx) = .inr cs) : XKr i (rsO cs) μ := by
  intro μ' b p d kd v hb a1 a2 hp hd hk hv e1 e2
  have hb2 : 2 ≤ b := by
    have hb' : b ∈ [40, 60, 80] := hb
    rcases List.mem_cons.mp hb' with q | q
    · omega
    · rcases List.mem_cons.mp q with q | q
      · omega
      · have := List.mem_singleton.mp q
        omega
  obtain ⟨r, μ1, x1, x2, x3, x4⟩ := x_reads (μ := μ') (b := b) hb2 hi hL (a2.trans h10) (fun j hj => ⟨(ht j hj).1, by rw [a1]; exact (ht j hj).2⟩) hp hd hk hv e1 e2
  rw [hX] at x4
  obtain ⟨y1, y2, y3, y4⟩ := x4
  refine ⟨μ1, by rw [x1, y1], y2, ?_, ?_, x2, x3⟩
  · rw [y3]
    exact congrArg nI (lst_2 cs 3 (3, 0, 3, 4) rfl).symm
  · rw [y4]
    exact congrArg nI (lst_3 cs 4 (3, 0, 3, 4) rfl).symm
/-! the class reads how they mouth -/
def RDS (x : Int32) (rs : Rsp) (b : Nat) (μ : Mm) : Prop := ∀ (μ' : Mm) (p d kd v : Nat), (∀ c, 3 ≤ c → c ≤ 10 → μ' c = μ c) → p < 6 → d < 6 → kd ≤ 6 → v ≤ 9 → μ' (b + 1) p = nI kd → μ' (b + 2) p = nI v → ∃ r μ'', F_Rooms_reads x b (nI p) (nI d) μ' = some (r, μ'') ∧ μ'' 1 11 = nI (rs.2.2 p d kd v) ∧ (∀ c, c ≠ 1 → μ'' c = μ' c) ∧ μ'' 1 2 = μ' 1 2
theorem RDS0 {b : Nat} (hb : 2 ≤ b) {μ : Mm} : RDS (-1) rs0 b μ := by
  intro μ' p d kd v _ hp hd hk hv e1 e2
  unfold F_Rooms_reads F_Rooms_begins
  simp only [lt_e]
  rw [rdI_nI hp (by omega)]
  simp (disch := omega) only [u_nc]
  rw [Option.bind_some, rdI_nI hp (by omega)]
  simp (disch := omega) only [u_nc]
  rw [Option.bind_some, Option.bind_some]
  have h3 : ∀ (x1 x2 : Int32), up2 (up2 (up2 (up2 (up2 (up2 (up2 (up2 (up2 (up2 μ' 1 3 (-1)) 1 4 (-1)) 1 6 (-1)) 1 7 (nI p)) 1 8 x1) 1 9 x2) 1 10 (nI d)) 1 11 3) 1 12 3) 1 13 4 1 3 = -1 := fun x1 x2 => by simp (disch := omega) only [u_nj, u_eq]
  rw [h3, if_pos (by decide)]
  exact ⟨_, _, rfl, by simp (disch := omega) only [u_nj, u_eq]; rfl, fun c hc => by simp (disch := omega) only [u_cf], by simp (disch := omega) only [u_nj]⟩
theorem RDS1 {i b : Nat} {rs : Rsp} {μ : Mm} (hb : b ∈ seats) (hi : i ≤ 6) (h : XKr i rs μ) : RDS (nI i) rs b μ := by
  intro μ' p d kd v hc hp hd hk hv e1 e2
  obtain ⟨μ1, a1, a2, a3, a4, a5, a6⟩ := h μ' b p d kd v hb (hc _ (by omega) (by omega)) (by rw [hc 10 (by omega) (by omega)]) hp hd hk hv e1 e2
  exact ⟨_, μ1, a1, a2, a5, a6⟩
theorem RDS.mv {x : Int32} {rs : Rsp} {b : Nat} {μ μ1 : Mm} (h : RDS x rs b μ) (k : ∀ c, 3 ≤ c → c ≤ 10 → μ1 c = μ c) : RDS x rs b μ1 := fun μ' p d kd v hc => h μ' p d kd v (fun c a b => (hc c a b).trans (k c a b))
def mth (rs : Rsp) (σ : Sg) (a z : Nat) : Nat → Nat := fun i => if a ≤ i ∧ i < z then rs.2.2 (i / 6) (i % 6) (σ 1 (i / 6)) (σ 2 (i / 6)) else σ 6 i
theorem SR_row6 {b : Nat} {σ : Sg} {μ μ' : Mm} {f : Nat → Nat} (S : SR b σ μ) (h3 : ∀ i, i < 36 → μ' (b + 6) i = nI (f i)) (ho : ∀ c, c ≠ 1 → c ≠ b + 6 → μ' c = μ c) (hb : 2 ≤ b) : SR b (row σ 6 f) μ' := by
  obtain ⟨s1, s2, s3, s4, s5, s6, s7, s8, s9, s10, s11, s12, s13⟩ := S
  unfold SR
  rw [ho b (by omega) (by omega), ho (b + 1) (by omega) (by omega), ho (b + 2) (by omega) (by omega), ho (b + 3) (by omega) (by omega), ho (b + 4) (by omega) (by omega), ho (b + 5) (by omega) (by omega)]
  exact ⟨s1, s2, s3, s4, s5, s6, s7, s8, s9, s10, s11, s12, h3⟩
def ST (b : Nat) (σ : Sg) (f : Nat → Nat) (μ0 μ : Mm) : Prop := SR b (row σ 6 f) μ ∧ (∀ c, c ≠ 1 → c ≠ b + 6 → μ c = μ0 c) ∧ μ 1 2 = μ0 1 2
theorem x_set1 {b : Nat} {rs : Rsp} {σ : Sg} {μ0 : Mm} {x : Int32} (hb : 11 ≤ b) (B : BW σ) (R : RDS x rs b μ0) (h6 : μ0 b 6 = x) {p lo : Nat} (hp : p < 6) (hlo : lo ≤ p) (y : Int32) (k : Mm → Option Mm) : ∀ e d, d + e = 6 → ∀ n, e < n → ∀ z, z = nI d → ∀ μ, ST b σ (mth rs σ (6 * lo) (6 * p + d)) μ0 μ → ∃ μ1, L_Rooms_settles_12 b y (nI p) k n z μ = k μ1 ∧ ST b σ (mth rs σ (6 * lo) (6 * (p + 1))) μ0 μ1 := by
  intro e
  induction e with
  | zero =>
    intro d hd n hn z hz μ T
    obtain ⟨N1, rfl⟩ : ∃ N, n = N + 1 := ⟨n - 1, by omega⟩
    have e : d = 6 := by omega
    subst e
    subst hz
    rw [L_Rooms_settles_12, if_pos (by decide)]
    exact ⟨μ, rfl, T⟩
  | succ e ih =>
    intro d hd n hn z hz μ T
    obtain ⟨N1, rfl⟩ : ∃ N, n = N + 1 := ⟨n - 1, by omega⟩
    subst hz
    obtain ⟨T1, T2, T3⟩ := T
    have hk := B.2.2.2.2.2.2.1 p
    have hv := B.2.2.2.2.2.2.2.1 p
    obtain ⟨r, μ1, a1, a2, a3, a4⟩ := R μ p d (σ 1 p) (σ 2 p) (fun c h1 h2 => T2 c (by omega) (by omega)) hp (by omega) hk hv (T1.2.2.2.2.2.2.2.1 p hp) (T1.2.2.2.2.2.2.2.2.1 p hp)
    have e6 : μ b 6 = x := by rw [T2 b (by omega) (by omega)]; exact h6
    rw [L_Rooms_settles_12, q6, ite_le (by omega) (by omega), if_neg (by omega), e6, a1, Option.bind_some]
    simp only []
    rw [a2, pk_mul, nI_add, wrI_nI (by omega) (by omega), Option.bind_some]
    refine ih (d + 1) (by omega) N1 (by omega) _ (nI_1 d) _ ⟨?_, fun c h1 h2 => by rw [u_cf h2, a3 c h1]; exact T2 c h1 h2, by rw [u_nc (by omega), a4]; exact T3⟩
    rw [← row_row (g := mth rs σ (6 * lo) (6 * p + d))]
    refine SR_row6 T1 (fun i hi => ?_) (fun c h1 h2 => by rw [u_cf h2, a3 c h1]) (by omega)
    by_cases ei : i = p * 6 + d
    · rw [u_eq rfl ei]
      unfold mth
      rw [if_pos (by omega), show i / 6 = p by omega, show i % 6 = d by omega]
    · rw [u_nj ei, a3 _ (by omega), T1.2.2.2.2.2.2.2.2.2.2.2.2 i hi]
      show nI (mth rs σ (6 * lo) (6 * p + d) i) = nI (mth rs σ (6 * lo) (6 * p + (d + 1)) i)
      unfold mth
      by_cases c : 6 * lo ≤ i ∧ i < 6 * p + d
      · rw [if_pos c, if_pos (by omega)]
      · rw [if_neg c, if_neg (by omega)]
theorem x_set {b : Nat} {rs : Rsp} {σ : Sg} {μ0 : Mm} {x : Int32} (hb : 11 ≤ b) (B : BW σ) (R : RDS x rs b μ0) (h6 : μ0 b 6 = x) (S : SR b σ μ0) {lo hi : Nat} (hlo : lo ≤ hi) (hhi : hi ≤ 6) : ∃ μ1, F_Rooms_settles b (nI lo) (nI hi) μ0 = some μ1 ∧ ST b σ (mth rs σ (6 * lo) (6 * hi)) μ0 μ1 := by
  have loop : ∀ e j, j + e = hi → lo ≤ j → ∀ n, e < n → ∀ z, z = nI j → ∀ μ, ST b σ (mth rs σ (6 * lo) (6 * j)) μ0 μ → ∃ μ1, L_Rooms_settles_3 b (nI hi) (fun (μ15 : Mm) => some μ15) n z μ = some μ1 ∧ ST b σ (mth rs σ (6 * lo) (6 * hi)) μ0 μ1 := by
    intro e
    induction e with
    | zero =>
      intro j hj hl n hn z hz μ T
      obtain ⟨N1, rfl⟩ : ∃ N, n = N + 1 := ⟨n - 1, by omega⟩
      have e : j = hi := by omega
      subst e
      subst hz
      rw [L_Rooms_settles_3, ite_le (by omega) (by omega), if_pos (Nat.le_refl _)]
      exact ⟨μ, rfl, T⟩
    | succ e ih =>
      intro j hj hl n hn z hz μ T
      obtain ⟨N1, rfl⟩ : ∃ N, n = N + 1 := ⟨n - 1, by omega⟩
      subst hz
      obtain ⟨μ1, a1, a2⟩ := x_set1 hb B R h6 (p := j) (lo := lo) (by omega) hl (nI hi) (fun (μ14 : Mm) => L_Rooms_settles_3 b (nI hi) (fun (μ15 : Mm) => some μ15) N1 (nI j + 1) μ14) 6 0 (by omega) fu (fu_gt (by omega)) 0 rfl μ T
      obtain ⟨μ2, b1, b2⟩ := ih (j + 1) (by omega) (by omega) N1 (by omega) (nI j + 1) (nI_1 j) μ1 a2
      rw [L_Rooms_settles_3, ite_le (by omega) (by omega), if_neg (by omega)]
      exact ⟨μ2, a1.trans b1, b2⟩
  have e0 : mth rs σ (6 * lo) (6 * lo) = σ 6 := by
    funext i
    unfold mth
    rw [if_neg (by omega)]
  exact loop (hi - lo) lo (by omega) (Nat.le_refl _) fu (fu_gt (by omega)) _ rfl μ0 ⟨by rw [e0, row_self]; exact S, fun c _ _ => rfl, rfl⟩
theorem mth_le {rs : Rsp} {σ : Sg} (B : BW σ) (R : RB rs) (a z i : Nat) : mth rs σ a z i ≤ 1000 := by
  unfold mth
  have h1 := R.2.2 (i / 6) (i % 6) (σ 1 (i / 6)) (σ 2 (i / 6))
  have h2 := B.2.2.2.2.2.2.2.2.2.2.2 i
  split
  · exact h1
  · exact h2
theorem BW_row6 {σ : Sg} {f : Nat → Nat} (B : BW σ) (h : ∀ p, f p ≤ 1000) : BW (row σ 6 f) := ⟨B.1, B.2.1, B.2.2.1, B.2.2.2.1, B.2.2.2.2.1, B.2.2.2.2.2.1, B.2.2.2.2.2.2.1, B.2.2.2.2.2.2.2.1, B.2.2.2.2.2.2.2.2.1, B.2.2.2.2.2.2.2.2.2.1, B.2.2.2.2.2.2.2.2.2.2.1, h⟩
/-- the room that holds, as the class reads it -/
theorem Inv_RDS {n : Nat} {rsf : Nat → Rsp} {μ μ' : Mm} {h b : Nat} (R0 : RR n rsf μ μ') (hh : h ≤ n) (hb : b ∈ seats) : RDS (hdI h) (rsH rsf h) b μ := by
  cases h with
  | zero => exact RDS0 (by
      have hb' : b ∈ [40, 60, 80] := hb
      rcases List.mem_cons.mp hb' with q | q
      · omega
      · rcases List.mem_cons.mp q with q | q
        · omega
        · have := List.mem_singleton.mp q
          omega)
  | succ i => exact RDS1 hb (by have := R0.1; omega) (R0.2.2.2 i (by omega)).2.1
theorem Inv_RB {n : Nat} {rsf : Nat → Rsp} {μ μ' : Mm} {h : Nat} (R0 : RR n rsf μ μ') (hh : h ≤ n) : RB (rsH rsf h) := by
  cases h with
  | zero => exact RB0
  | succ i => exact (R0.2.2.2 i (by omega)).1
