/-! room -/
theorem Inv.rm {μ μ' μ1 μ1' : Mm} {ν ν' : Ml} {n n1 L1 : Nat} {rsf rsf1 : Nat → Rsp} {tx1 : Nat → Nat} {σ1 τ : Sg} {im : Bool} (r : RR n1 rsf1 μ1 μ1') (t : TX n1 L1 tx1 μ1 μ1') (s : SR 40 σ1 μ1 ∧ SX 40 σ1 μ1 ∧ MR σ1 μ1' ∧ MX σ1 μ1' ∧ GS n1 rsf1 σ1) (h8 : IM n rsf im τ μ μ') (gs : GS n rsf τ → GS n1 rsf1 τ) (h9 : TR μ μ') (h10 : TP μ ν μ' ν') (h11 : LT μ') (h12 : μ' 0 27 = 9999) (gx0 : μ1 0 = μ 0) (gx : ∀ c, 11 ≤ c → (c < 40 ∨ 79 < c) → μ1 c = μ c) (gm : ∀ c, (c = 25 ∨ 52 ≤ c) → μ1' c = μ' c) (gm0 : ∀ j, (j = 27 ∨ 43 ≤ j) → μ1' 0 j = μ' 0 j) : Inv μ1 ν μ1' ν' := by
  refine ⟨n1, rsf1, L1, tx1, σ1, τ, im, r, t, s, ⟨by rw [gx0]; exact h8.1, (gm0 43 (by omega)).trans h8.2.1, fun hi => ?_⟩, ?_, h10.keep (gx 21 (by omega) (by omega)) (gx 22 (by omega) (by omega)) (gm 65 (by omega)) (gm 66 (by omega)), fun i hi => by rw [gm 25 (by omega)]; exact h11 i hi, (gm0 27 (by omega)).trans h12⟩
  · obtain ⟨a, b, c, d⟩ := h8.2.2 hi
    refine ⟨a.keep (fun c h1 h2 => gx c (by omega) (by omega)), b.keep (fun c h1 h2 => gx c (by omega) (by omega)) (by rw [gx 80 (by omega) (by omega)]), ?_, gs d⟩
    unfold MI
    rw [gm0 44 (by omega), gm0 45 (by omega), gm0 46 (by omega), gm0 47 (by omega), gm0 48 (by omega), gm0 49 (by omega), gm0 50 (by omega), gm0 51 (by omega), gm 52 (by omega), gm 53 (by omega), gm 54 (by omega), gm 55 (by omega), gm 56 (by omega), gm 57 (by omega), gm 58 (by omega), gm 59 (by omega), gm 60 (by omega), gm 61 (by omega), gm 62 (by omega)]
    exact c
  · unfold TR
    rw [gx 11 (by omega) (by omega), gx 12 (by omega) (by omega), gm0 63 (by omega), gm 64 (by omega)]
    exact h9
theorem rsH_ext {n : Nat} {rsf : Nat → Rsp} {rs : Rsp} {h : Nat} (hh : h ≤ n) : rsH (fun i => if i = n then rs else rsf i) h = rsH rsf h := by
  cases h with
  | zero => rfl
  | succ i =>
    show (if i = n then rs else rsf i) = rsf i
    rw [if_neg (by omega)]
def rmS (σ : Sg) (rs : Rsp) (n : Nat) : Sg := ups (ups (ups σ 0 4 rs.1) 0 5 rs.2.1) 16 0 (n + 1)
theorem rmS_o {σ : Sg} {rs : Rsp} {n a : Nat} (h0 : a ≠ 0) (h16 : a ≠ 16) : rmS σ rs n a = σ a := by
  funext j
  unfold rmS
  rw [ups_n (by omega), ups_n (by omega), ups_n (by omega)]
theorem rmS_0 {σ : Sg} {rs : Rsp} {n j : Nat} (h4 : j ≠ 4) (h5 : j ≠ 5) : rmS σ rs n 0 j = σ 0 j := by
  unfold rmS
  rw [ups_n (by omega), ups_n (by omega), ups_n (by omega)]
section CMD
variable {μ μ' : Mm} {ν ν' : Ml}
theorem st_room (I : Inv μ ν μ' ν') : ∃ r μ1 μ1', F_BT_room μ = some (r, μ1) ∧ F_M_room μ' = some (r, μ1') ∧ Inv μ1 ν μ1' ν' := by
  obtain ⟨n, rsf, L, tx, σ, τ, im, h1, h2, hs, h8, h9, h10, h11, h12⟩ := id I
  obtain ⟨h3, h4, h5, h6, h7⟩ := id hs
  obtain ⟨⟨l1, l0⟩, l2, l3, l4⟩ := id h2
  have B := h7.1
  have h66 := B.1
  have hn := h1.1
  unfold F_BT_room F_M_room
  rw [h1.2.1, h1.2.2.1, q6, ite_lt (by omega) (by omega), ite_eq (by omega) (by omega)]
  by_cases c6 : n = 6
  · rw [if_neg (by omega), if_pos c6]
    exact ⟨_, _, _, rfl, rfl, I⟩
  · rw [if_pos (by omega), if_neg c6]
    have hkd := B.2.2.2.2.2.2.1 0
    have hv := B.2.2.2.2.2.2.2.1 0
    obtain ⟨r, μ2, x1, x2, x3, x4⟩ := x_reads (μ := μ) (b := 40) (ρ := n) (L := L) (p := 0) (d := 0) (kd := σ 1 0) (v := σ 2 0) (tx := tx) (by omega) hn l1 l2 (fun j hj => ⟨(l4 j hj).1, (l4 j hj).2.1⟩) (by omega) (by omega) hkd hv (h3.2.2.2.2.2.2.2.1 0 (by omega)) (h3.2.2.2.2.2.2.2.2.1 0 (by omega))
    have x1' : F_Rooms_reads (nI n) 40 0 0 μ = some (r, μ2) := x1
    have G : GM (sgn L tx) μ' := ⟨L, tx, l1, l3, fun j hj => ⟨(l4 j hj).1, (l4 j hj).2.2⟩, fun _ => rfl⟩
    have Q := m_gtext (f := n) (by omega) G h11
    have hXe : ∀ i, 100 ≤ i → sgn L tx i = 200 := G.e
    rw [x1', Option.bind_some]
    simp only []
    cases hX : pX (sgn L tx) with
    | inl q =>
      rw [hX] at x4 Q
      obtain ⟨y1, y2⟩ := x4
      subst y2
      obtain ⟨μ2', z1, z2, z3⟩ := Q
      obtain ⟨f1, f2, f3, f4, f5⟩ := z3
      have e12 : μ2 1 2 = nI n := x3.trans h1.2.1
      have fg : F_Rooms_forgetsText μ2 = some (up2 μ2 10 n 0) := by
        unfold F_Rooms_forgetsText
        rw [e12, wrI_nI (by omega) (by omega), Option.bind_some]
      rw [if_neg (nn_not_neg (by omega)), fg, Option.bind_some, z1, Option.bind_some]
      simp only []
      rw [lt_e, if_pos trivial, u_nj (by omega), z2]
      refine ⟨_, _, _, rfl, rfl, Inv.rm (n1 := n) (rsf1 := rsf) (L1 := 0) (tx1 := tx) (σ1 := σ) ⟨hn, by rw [u_nc (by omega)]; exact e12, by rw [u_nj (by omega), f2 9 (by omega)]; exact h1.2.2.1, fun i hi => ⟨(h1.2.2.2 i hi).1, (h1.2.2.2 i hi).2.1.mv (by rw [u_cf (by omega), x2 _ (by omega)]) (by rw [u_nj (by omega), x2 10 (by omega)]), (h1.2.2.2 i hi).2.2.mv (by rw [u_nc (by omega), f3 i (by omega)]) (fun c k a b _ d => by rw [u_nc (by omega), f4 c a b k (by omega)]) (fun k _ d => by rw [u_nc (by omega), f5 k (by omega)])⟩⟩ ⟨⟨by omega, fun j a b => by rw [u_nj (by omega), x2 10 (by omega)]; exact l0 j a b⟩, u_eq rfl rfl, u_eq rfl rfl, fun j hj => absurd hj (Nat.not_lt_zero j)⟩ ⟨?_, ?_, ?_, ?_, h7⟩ h8 id h9 h10 h11 h12 ?_ (fun c a b => ?_) (fun c a => ?_) (fun j a => ?_)⟩
      · exact h3.keep (fun c a b => by rw [u_cf (by omega), x2 c (by omega)])
      · exact h4.keep (fun c a b => by rw [u_cf (by omega), x2 c (by omega)]) (by rw [u_nc (by omega), x2 40 (by omega)])
      · unfold MR
        rw [u_nj (by omega), u_nj (by omega), u_nj (by omega), u_nj (by omega), u_cf (by omega), u_cf (by omega), u_cf (by omega), u_cf (by omega), u_cf (by omega), f2 0 (by omega), f2 3 (by omega), f2 2 (by omega), f2 1 (by omega), f1 4 (by omega) (by omega), f1 5 (by omega) (by omega), f1 6 (by omega) (by omega), f1 7 (by omega) (by omega), f1 8 (by omega) (by omega)]
        exact h5
      · unfold MX
        rw [u_nj (by omega), u_nj (by omega), u_nj (by omega), u_nj (by omega), u_cf (by omega), u_cf (by omega), u_cf (by omega), u_cf (by omega), u_cf (by omega), u_cf (by omega), f2 10 (by omega), f2 34 (by omega), f2 37 (by omega), f2 38 (by omega), f1 35 (by omega) (by omega), f1 36 (by omega) (by omega), f1 39 (by omega) (by omega), f1 40 (by omega) (by omega), f1 41 (by omega) (by omega), f1 42 (by omega) (by omega)]
        exact h6
      · rw [u_cf (by omega), x2 0 (by omega)]
      · rw [u_cf (by omega), x2 c (by omega)]
      · rw [u_cf (by omega), f1 c (by omega) (by omega)]
      · rw [u_nj (by omega), f2 j (by omega)]
    | inr cs =>
      rw [hX] at x4 Q
      obtain ⟨y1, y2, y3, y4⟩ := x4
      subst y1
      obtain ⟨μ2', z1, z3, z4, z5⟩ := Q
      obtain ⟨f1, f2, f3, f4, f5⟩ := z3
      obtain ⟨hg, hlen, hsm⟩ := pX_all hXe hX
      have hRB := RB_O hg hlen
      obtain ⟨rs, hrs⟩ : ∃ rs, rs = rsO cs := ⟨_, rfl⟩
      have e12 : μ2 1 12 = nI rs.1 := by
        rw [y3, hrs]
        exact congrArg nI (lst_2 cs 3 (3, 0, 3, 4) rfl).symm
      have e13 : μ2 1 13 = nI rs.2.1 := by
        rw [y4, hrs]
        exact congrArg nI (lst_3 cs 4 (3, 0, 3, 4) rfl).symm
      rw [← hrs] at hRB
      have e2 : μ2 1 2 = nI n := x3.trans h1.2.1
      obtain ⟨μ9, hμ9⟩ : ∃ μ9, μ9 = up2 (up2 (up2 (up2 μ2 40 4 (nI rs.1)) 40 5 (nI rs.2.1)) 1 2 (nI (n + 1))) 40 6 (nI n) := ⟨_, rfl⟩
      have g9 : ∀ c, c ≠ 1 → c ≠ 40 → μ9 c = μ c := fun c a b => by rw [hμ9, u_cf b, u_cf a, u_cf b, u_cf b, x2 c a]
      have g9' : ∀ j, j ≠ 4 → j ≠ 5 → j ≠ 6 → μ9 40 j = μ 40 j := fun j a b c => by rw [hμ9, u_nj c, u_nc (by omega), u_nj b, u_nj a, x2 40 (by omega)]
      have S9 : SR 40 (rmS σ rs n) μ9 := by
        obtain ⟨s1, s2, s3, s4, s5, s6, s7, s8, s9, s10, s11, s12, s13⟩ := id h3
        have eck : ckm (rmS σ rs n) = ckm σ := rfl
        unfold SR
        rw [eck, rmS_0 (j := 0) (by omega) (by omega), rmS_0 (j := 1) (by omega) (by omega), rmS_0 (j := 2) (by omega) (by omega), rmS_0 (j := 3) (by omega) (by omega), rmS_o (a := 1) (by omega) (by omega), rmS_o (a := 2) (by omega) (by omega), rmS_o (a := 3) (by omega) (by omega), rmS_o (a := 4) (by omega) (by omega), rmS_o (a := 5) (by omega) (by omega), rmS_o (a := 6) (by omega) (by omega), g9' 1 (by omega) (by omega) (by omega), g9' 2 (by omega) (by omega) (by omega), g9' 3 (by omega) (by omega) (by omega), g9' 7 (by omega) (by omega) (by omega), g9' 8 (by omega) (by omega) (by omega), g9 41 (by omega) (by omega), g9 42 (by omega) (by omega), g9 43 (by omega) (by omega), g9 44 (by omega) (by omega), g9 45 (by omega) (by omega), g9 46 (by omega) (by omega)]
        refine ⟨s1, s2, s3, s4, ?_, ?_, s7, s8, s9, s10, s11, s12, s13⟩
        · rw [hμ9, u_nj (by omega), u_nc (by omega), u_nj (by omega), u_eq rfl rfl]; rfl
        · rw [hμ9, u_nj (by omega), u_nc (by omega), u_eq rfl rfl]; rfl
      have B9 : BW (rmS σ rs n) := by
        obtain ⟨b1, b2, b3, b4, b5, b6, b7⟩ := id B
        exact ⟨b1, b2, b3, b4, hRB.1, hRB.2.1, b7⟩
      have K9 : XKr n rs μ9 := by
        rw [hrs]
        exact (XKr_O hn l1 l2 (fun j hj => ⟨(l4 j hj).1, (l4 j hj).2.1⟩) hX).mv (g9 _ (by omega) (by omega)) (by rw [g9 10 (by omega) (by omega)])
      have h96 : μ9 40 6 = nI n := by rw [hμ9]; exact u_eq rfl rfl
      obtain ⟨μ10, w1, w2, w3, w4⟩ := x_set (b := 40) (by omega) B9 (RDS1 (by decide) hn K9) h96 S9 (lo := 0) (hi := σ 0 0) (by omega) h66
      have w1' : F_Rooms_settles 40 0 (nI (σ 0 0)) μ9 = some μ10 := w1
      have kt : F_Rooms_keepsText (up2 (up2 μ2 40 4 (nI rs.1)) 40 5 (nI rs.2.1)) = some (nI n, up2 (up2 (up2 μ2 40 4 (nI rs.1)) 40 5 (nI rs.2.1)) 1 2 (nI (n + 1))) := by
        have e : up2 (up2 μ2 40 4 (nI rs.1)) 40 5 (nI rs.2.1) 1 2 = nI n := by rw [u_nc (by omega), u_nc (by omega)]; exact e2
        unfold F_Rooms_keepsText
        rw [e, q6, ite_le (by omega) (by omega), if_neg (by omega), nI_1]
        exact lt_e _ _
      have e40 : μ9 40 1 = nI (σ 0 0) := (g9' 1 (by omega) (by omega) (by omega)).trans h3.1
      have v13 : up2 μ2 40 4 (nI rs.1) 1 13 = nI rs.2.1 := (u_nc (by omega)).trans e13
      have r40 : μ10 40 6 = nI n := by rw [w3 40 (by omega) (by omega)]; exact h96
      rw [if_pos (show (-1 : Int32) < 0 by decide), lt_e, e12, lt_e, v13, kt, Option.bind_some]
      simp only []
      rw [lt_e, ← hμ9, e40, w1', Option.bind_some, r40, z1, Option.bind_some]
      simp only []
      have a9 : up2 μ2' 0 11 0 0 9 = nI n := by rw [u_nj (by omega), f2 9 (by omega)]; exact h1.2.2.1
      have b9 : up2 (up2 μ2' 0 11 0) 0 10 (nI n) 0 9 = nI n := by rw [u_nj (by omega)]; exact a9
      have b10 : up2 (up2 (up2 μ2' 0 11 0) 0 10 (nI n)) 0 9 (nI (n + 1)) 0 10 = nI n := by rw [u_nj (by omega)]; exact u_eq rfl rfl
      rw [lt_e, if_neg one_ne, lt_e, a9, lt_e, b9, nI_1, b10]
      obtain ⟨μZ, hZ⟩ : ∃ μZ, μZ = up2 (up2 (up2 μ2' 0 11 0) 0 10 (nI n)) 0 9 (nI (n + 1)) := ⟨_, rfl⟩
      rw [← hZ]
      have gz : ∀ c, c ≠ 0 → μZ c = μ2' c := fun c a => by rw [hZ, u_cf a, u_cf a, u_cf a]
      have gz0 : ∀ j, j ≠ 9 → j ≠ 10 → j ≠ 11 → μZ 0 j = μ2' 0 j := fun j a b c => by rw [hZ, u_nj a, u_nj b, u_nj c]
      have kz : ∀ i, i < n → MKi i (rsf i) μZ := fun i hi => (h1.2.2.2 i hi).2.2.mv (by rw [gz 15 (by omega), f3 i (by omega)]) (fun c k a b _ d => by rw [gz c (by omega), f4 c a b k (by omega)]) (fun k _ d => by rw [gz 20 (by omega), f5 k (by omega)])
      have kx : ∀ i, i < n → XKr i (rsf i) μ10 := fun i hi => (h1.2.2.2 i hi).2.1.mv (by rw [w3 _ (by omega) (by omega), g9 _ (by omega) (by omega)]) (by rw [w3 10 (by omega) (by omega), g9 10 (by omega) (by omega)])
      have kzn : MKi n rs μZ := by
        rw [hrs]
        exact MKi_O (by omega) hg hlen hsm (by rw [gz 15 (by omega), z4, Nat.zero_add]) (z5.mv (fun x a b q _ _ => by rw [gz x (by omega)]) (fun q _ _ => by rw [gz 20 (by omega)]))
      have kxn : XKr n rs μ10 := K9.mv (w3 _ (by omega) (by omega)) (by rw [w3 10 (by omega) (by omega)])
      refine ⟨_, _, _, rfl, rfl, Inv.rm (n1 := n + 1) (rsf1 := fun i => if i = n then rs else rsf i) (L1 := 0) (tx1 := tx) (σ1 := row (rmS σ rs n) 6 (mth rs (rmS σ rs n) (6 * 0) (6 * σ 0 0))) ⟨by omega, ?_, ?_, fun i hi => ?_⟩ ⟨⟨by omega, fun j a b => ?_⟩, ?_, ?_, fun j hj => absurd hj (Nat.not_lt_zero j)⟩ ⟨w2, ?_, ?_, ?_, ?_⟩ h8 (fun gs => ?_) h9 h10 h11 h12 ?_ (fun c a b => ?_) (fun c a => ?_) (fun j a => ?_)⟩
      · rw [w4, hμ9, u_nc (by omega)]; exact u_eq rfl rfl
      · rw [hZ]; exact u_eq rfl rfl
      · show RB (if i = n then rs else rsf i) ∧ XKr i (if i = n then rs else rsf i) μ10 ∧ MKi i (if i = n then rs else rsf i) μZ
        by_cases c : i = n
        · rw [if_pos c, c]; exact ⟨hRB, kxn, kzn⟩
        · rw [if_neg c]; exact ⟨(h1.2.2.2 i (by omega)).1, kx i (by omega), kz i (by omega)⟩
      · rw [w3 10 (by omega) (by omega), g9 10 (by omega) (by omega)]; exact l0 j (by omega) b
      · rw [w3 10 (by omega) (by omega), g9 10 (by omega) (by omega)]; exact l0 (n + 1) (by omega) (by omega)
      · rw [hZ, u_nj (by omega), u_nj (by omega)]; exact u_eq rfl rfl
      · have k : SX 40 σ (up2 μ10 40 6 (μ 40 6)) := h4.keep (fun c a b => by rw [u_cf (by omega), w3 c (by omega) (by omega), g9 c (by omega) (by omega)]) (u_eq rfl rfl)
        obtain ⟨k1, k2, k3, k4⟩ := k
        rw [u_cf (by omega), u_cf (by omega), u_cf (by omega)] at k1 k2 k3
        exact ⟨k1, k2, k3, r40⟩
      · have k : MR σ μZ := by
          unfold MR
          rw [gz0 0 (by omega) (by omega) (by omega), gz0 3 (by omega) (by omega) (by omega), gz0 2 (by omega) (by omega) (by omega), gz0 1 (by omega) (by omega) (by omega), gz 4 (by omega), gz 5 (by omega), gz 6 (by omega), gz 7 (by omega), gz 8 (by omega), f2 0 (by omega), f2 3 (by omega), f2 2 (by omega), f2 1 (by omega), f1 4 (by omega) (by omega), f1 5 (by omega) (by omega), f1 6 (by omega) (by omega), f1 7 (by omega) (by omega), f1 8 (by omega) (by omega)]
          exact h5
        exact k
      · obtain ⟨m1, m2, m3, m4⟩ := id h6
        unfold MX
        rw [gz0 34 (by omega) (by omega) (by omega), gz0 37 (by omega) (by omega) (by omega), gz0 38 (by omega) (by omega) (by omega), gz 35 (by omega), gz 36 (by omega), gz 39 (by omega), gz 40 (by omega), gz 41 (by omega), gz 42 (by omega), f2 34 (by omega), f2 37 (by omega), f2 38 (by omega), f1 35 (by omega) (by omega), f1 36 (by omega) (by omega), f1 39 (by omega) (by omega), f1 40 (by omega) (by omega), f1 41 (by omega) (by omega), f1 42 (by omega) (by omega)]
        refine ⟨?_, m2, m3, m4⟩
        rw [hZ, u_nj (by omega), u_eq rfl rfl]
        rfl
      · obtain ⟨t1, t2, t3, t4, t5, t6, t7⟩ := id h7
        refine ⟨BW_row6 B9 (mth_le B9 hRB _ _), ?_, ?_, Nat.le_refl _, t5, t6, t7⟩
        · obtain ⟨c1, c2, c3, c4, c5, c6', c7, c8, c9, c10⟩ := id t2
          exact ⟨c1, c2, c3, c4, c5, c6', c7, c8, c9, (show n + 1 ≤ 6 by omega)⟩
        · have e : rsH (fun i => if i = n then rs else rsf i) (row (rmS σ rs n) 6 (mth rs (rmS σ rs n) (6 * 0) (6 * σ 0 0)) 16 0) = rs := by
            show (if n = n then rs else rsf n) = rs
            rw [if_pos rfl]
          rw [e]
          refine ⟨rfl, rfl, fun q d hq hd => ?_⟩
          show mth rs (rmS σ rs n) (6 * 0) (6 * σ 0 0) (q * 6 + d) = rs.2.2 q d (rmS σ rs n 1 q) (rmS σ rs n 2 q)
          replace hq : q < σ 0 0 := hq
          unfold mth
          rw [if_pos (by omega), show (q * 6 + d) / 6 = q by omega, show (q * 6 + d) % 6 = d by omega]
      · obtain ⟨t1, t2, t3, t4, t5, t6, t7⟩ := gs
        exact ⟨t1, t2, by rw [rsH_ext t4]; exact t3, by omega, t5, t6, t7⟩
      · rw [w3 0 (by omega) (by omega), g9 0 (by omega) (by omega)]
      · rw [w3 c (by omega) (by omega), g9 c (by omega) (by omega)]
      · rw [gz c (by omega), f1 c (by omega) (by omega)]
      · rw [gz0 j (by omega) (by omega) (by omega), f2 j (by omega)]
end CMD
