/-! term, image, undo -/
section CMD
variable {μ μ' : Mm} {ν ν' : Ml}
theorem has0 {σ : Sg} (S : SR 40 σ μ) (B : BW σ) : F_Seat_has 40 0 μ = some (if σ 0 0 = 0 then 0 else 1) := by
  have := B.1
  unfold F_Seat_has
  rw [if_neg (by decide), S.1]
  by_cases h : σ 0 0 = 0
  · rw [if_pos h, if_pos (by rw [h]; decide)]
  · rw [if_neg h, if_neg (fun q => h (by have := (nI_leI (a := σ 0 0) (b := 0) (by omega) (by omega)).mp q; omega))]
theorem term_add (I : Inv μ ν μ' ν') {k w : Nat} (hk : k ≤ 3) (hw : w ≤ 5) {b : Int32} (hb : k ≠ 0 → b = nI w) : ∃ (r : Int32) (μ1 μ1' : Mm), ((F_Rows_takes 50 (nI k) b μ).bind fun p_ => match p_ with | (v10, μ11) => some (v10, μ11)) = some (r, μ1) ∧ ((if (μ' 0 37) = 10 then some ((-4), μ') else (wrI μ' 39 10 (μ' 0 37) (nI k)).bind fun μ9 => jn (α := Int32) (fun K13 => (if nI k ≤ 0 then K13 0 else K13 b)) (fun (j10 : Int32) => (wrI μ9 40 10 (μ9 0 37) j10).bind fun μ11 => lt_ (up2 μ11 0 37 ((μ11 0 37) + 1)) fun μ12 => some ((μ12 0 37), μ12))) : Option (Int32 × Mm)) = some (r, μ1') ∧ Inv μ1 ν μ1' ν' := by
  obtain ⟨n, rsf, L, tx, σ, τ, im, h1, h2, ⟨h3, h4, h5, h6, h7⟩, h8, h9, h10, h11, h12⟩ := id I
  obtain ⟨x3, ⟨x1, x2⟩, x4, x5⟩ := id h4
  obtain ⟨m0, m3, ⟨m1, m2⟩, m4⟩ := id h6
  have b10 := h7.2.1.2.1
  rw [m1, r_takes (r := 50) x1 (by decide) b10, q10, ite_eq (by omega) (by omega)]
  have hrl : rlen 50 = 10 := rfl
  rw [hrl]
  by_cases hf : σ 10 0 = 10
  · rw [if_pos hf, if_pos hf]
    exact ⟨_, _, _, rfl, rfl, I⟩
  · have key : ∀ v : Int32, (k ≠ 0 → v = nI w) → ∃ (r : Int32) (μ1 μ1' : Mm), (some (nI (σ 10 0 + 1), up2 (up2 (up2 μ (50 + 1) (σ 10 0) (nI k)) (50 + 2) (σ 10 0) b) 50 2 (nI (σ 10 0 + 1)))).bind (fun p_ => match p_ with | (v10, μ11) => some (v10, μ11)) = some (r, μ1) ∧ ((wrI (up2 μ' 39 (σ 10 0) (nI k)) 40 10 ((up2 μ' 39 (σ 10 0) (nI k)) 0 37) v).bind fun μ11 => lt_ (up2 μ11 0 37 ((μ11 0 37) + 1)) fun μ12 => some ((μ12 0 37), μ12)) = some (r, μ1') ∧ Inv μ1 ν μ1' ν' := by
      intro v hv
      have e34 : up2 μ' 39 (σ 10 0) (nI k) 0 37 = nI (σ 10 0) := by rw [u_nc (by omega)]; exact m1
      rw [Option.bind_some, e34, wrI_nI (by omega) (by omega), Option.bind_some]
      simp only [lt_e]
      have e34' : up2 (up2 μ' 39 (σ 10 0) (nI k)) 40 (σ 10 0) v 0 37 = nI (σ 10 0) := by rw [u_nc (by omega)]; exact e34
      rw [e34', nI_1, u_eq rfl rfl]
      refine ⟨_, _, _, rfl, rfl, Inv.now (σ := ups (ups (ups σ 11 (σ 10 0) k) 12 (σ 10 0) w) 10 0 (σ 10 0 + 1)) h1 h2 h8 h9 h10 h11 h12 (Off.up (Off.up (Off.up Off.rf (by omega) (by omega)) (by omega) (by omega)) (by omega) (by omega)) (MN.up (MN.up (MN.up MN.rf (by omega)) (by omega)) (by omega)) ⟨?_, ?_, ?_, ?_, ⟨h7.1, ⟨h7.2.1.1, ?_, h7.2.1.2.2.1, h7.2.1.2.2.2.1, h7.2.1.2.2.2.2.1, fun i => ?_, fun i => ?_, h7.2.1.2.2.2.2.2.2.2⟩, h7.2.2.1, h7.2.2.2.1, h7.2.2.2.2⟩⟩⟩
      · show SR 40 σ _
        exact h3.keep (fun c hc1 hc2 => by simp (disch := omega) only [u_cf])
      · refine ⟨?_, ⟨u_eq rfl rfl, fun i hi => ?_⟩, ?_, ?_⟩
        · simp (disch := omega) only [u_nc]
          exact x3
        · have hi' : i < σ 10 0 + 1 := hi
          by_cases h : i = σ 10 0
          · subst h
            simp (disch := omega) only [u_nc, u_eq]
            rw [ups_n (by omega), ups_n (by omega), ups_e, ups_n (by omega), ups_e]
            exact ⟨rfl, fun hk => hb hk⟩
          · simp (disch := omega) only [u_nc, u_nj]
            rw [ups_n (by omega), ups_n (by omega), ups_n (by omega), ups_n (by omega), ups_n (by omega), ups_n (by omega)]
            exact x2 i (by omega)
        · simp (disch := omega) only [u_nc]
          exact x4
        · simp (disch := omega) only [u_nc]
          exact x5
      · exact MR_slot (MR_cell (MR_cell h5 (by omega)) (by omega)) (by omega)
      · refine ⟨?_, ?_, ⟨u_eq rfl rfl, fun i hi => ?_⟩, ?_⟩
        · simp (disch := omega) only [u_nc, u_nj]
          exact m0
        · simp (disch := omega) only [u_nc, u_nj]
          exact m3
        · have hi' : i < σ 10 0 + 1 := hi
          by_cases h : i = σ 10 0
          · subst h
            simp (disch := omega) only [u_nc, u_eq]
            rw [ups_n (by omega), ups_n (by omega), ups_e, ups_n (by omega), ups_e]
            exact ⟨rfl, hv⟩
          · simp (disch := omega) only [u_nc, u_nj]
            rw [ups_n (by omega), ups_n (by omega), ups_n (by omega), ups_n (by omega), ups_n (by omega), ups_n (by omega)]
            exact m2 i (by omega)
        · simp (disch := omega) only [u_nc, u_nj]
          exact m4
      · show σ 10 0 + 1 ≤ 10
        omega
      · rw [ups_n (by omega), ups_n (by omega)]
        by_cases h : i = σ 10 0
        · rw [h, ups_e]; exact hk
        · rw [ups_n (by omega)]; exact h7.2.1.2.2.2.2.2.1 i
      · rw [ups_n (by omega)]
        by_cases h : i = σ 10 0
        · rw [h, ups_e]; exact hw
        · rw [ups_n (by omega), ups_n (by omega)]; exact h7.2.1.2.2.2.2.2.2.1 i
    rw [if_neg hf, if_neg hf, wrI_nI (by omega) (by omega), Option.bind_some (a := up2 μ' 39 (σ 10 0) (nI k)), jn_e, q0, ite_le (by omega) (by omega), ← q0]
    by_cases k0 : k = 0
    · rw [if_pos (by omega)]
      exact key 0 (fun h => absurd k0 h)
    · rw [if_neg (by omega)]
      exact key b hb
theorem st_term (I : Inv μ ν μ' ν') (a b : Int32) : ∃ r μ1 μ1', F_BT_term a b μ = some (r, μ1) ∧ F_M_term a b μ' = some (r, μ1') ∧ Inv μ1 ν μ1' ν' := by
  obtain ⟨n, rsf, L, tx, σ, τ, im, h1, h2, ⟨h3, h4, h5, h6, h7⟩, h8, h9, h10, h11, h12⟩ := id I
  obtain ⟨x3, ⟨x1, x2⟩, x4, x5⟩ := id h4
  obtain ⟨m0, m3, ⟨m1, m2⟩, m4⟩ := id h6
  have h66 := h7.1.1
  unfold F_BT_term F_M_term F_Rows_empties
  by_cases ha : a = -1
  · rw [if_pos ha, if_pos ha]
    simp only [lt_e]
    refine ⟨0, up2 μ 50 2 0, up2 μ' 0 37 0, rfl, rfl, Inv.now (σ := ups σ 10 0 0) h1 h2 h8 h9 h10 h11 h12 (Off.up Off.rf (by omega) (by omega)) (MN.up MN.rf (by omega)) ⟨?_, ?_, ?_, ?_, ⟨h7.1, ⟨h7.2.1.1, Nat.zero_le _, h7.2.1.2.2⟩, h7.2.2.1, h7.2.2.2.1, h7.2.2.2.2⟩⟩⟩
    · show SR 40 σ _
      exact h3.keep (fun c hc1 hc2 => by simp (disch := omega) only [u_cf])
    · refine ⟨?_, ⟨(u_eq rfl rfl).trans (show (0 : Int32) = nI (ups σ 10 0 0 10 0) by rw [ups_e]; rfl), fun i hi => absurd hi (by rw [ups_e]; exact Nat.not_lt_zero i)⟩, ?_, ?_⟩
      · simp (disch := omega) only [u_nc]
        exact x3
      · simp (disch := omega) only [u_nc]
        exact x4
      · rw [u_nc (by omega)]
        exact x5
    · exact MR_slot h5 (by omega)
    · refine ⟨(u_nj (by omega)).trans m0, ?_, ⟨u_eq rfl rfl, fun i hi => absurd hi (Nat.not_lt_zero i)⟩, ?_⟩
      · simp (disch := omega) only [u_nc, u_nj]
        exact m3
      · simp (disch := omega) only [u_nc, u_nj]
        exact m4
  · rw [if_neg ha, if_neg ha, within_in]
    rcases in_lit (lo := 0) (hi := 3) (by omega) (by omega) a 0 3 rfl rfl with ⟨k, _, hk, rfl, e⟩ | e
    · rw [e, Option.bind_some, Option.bind_some, if_neg one_ne, if_neg one_ne]
      rcases (show k = 0 ∨ k = 1 ∨ k = 2 ∨ k = 3 by omega) with rfl | rfl | rfl | rfl
      · rw [jn_e, jn_e, if_neg (show ¬ nI 0 = 1 by decide), if_neg (show ¬ nI 0 = 2 by decide), jn_e, if_neg (show ¬ nI 0 = 3 by decide), show F_M_in (nI 0) 1 2 = some 0 by decide, Option.bind_some, jn_e, if_pos rfl, jn_e, if_neg (show ¬ nI 0 = 3 by decide)]
        exact term_add I (k := 0) (w := 0) (by omega) (by omega) (fun h => absurd rfl h)
      · simp only [jn_e]
        rw [if_pos (show nI 1 = 1 by decide), show F_M_in (nI 1) 1 2 = some 1 by decide, Option.bind_some, if_neg one_ne]
        rcases pup_c h3 h5 h7.1 b with ⟨p, hp, rfl, e1, e2⟩ | ⟨e1, e2⟩
        · rw [e1, e2, Option.bind_some, Option.bind_some, if_neg one_ne, if_neg one_ne, if_neg (show ¬ nI 1 = 3 by decide), if_neg (show ¬ nI 1 = 3 by decide)]
          exact term_add I (k := 1) (w := p) (by omega) (by omega) (fun _ => rfl)
        · rw [e1, e2, Option.bind_some, Option.bind_some, if_pos rfl, if_pos rfl]
          exact ⟨_, _, _, rfl, rfl, I⟩
      · simp only [jn_e]
        rw [if_neg (show ¬ nI 2 = 1 by decide), if_pos (show nI 2 = 2 by decide), show F_M_in (nI 2) 1 2 = some 1 by decide, Option.bind_some, if_neg one_ne]
        rcases pup_c h3 h5 h7.1 b with ⟨p, hp, rfl, e1, e2⟩ | ⟨e1, e2⟩
        · rw [e1, e2, Option.bind_some, Option.bind_some, if_neg one_ne, if_neg one_ne, if_neg (show ¬ nI 2 = 3 by decide), if_neg (show ¬ nI 2 = 3 by decide)]
          exact term_add I (k := 2) (w := p) (by omega) (by omega) (fun _ => rfl)
        · rw [e1, e2, Option.bind_some, Option.bind_some, if_pos rfl, if_pos rfl]
          exact ⟨_, _, _, rfl, rfl, I⟩
      · rw [jn_e, jn_e, if_neg (show ¬ nI 3 = 1 by decide), if_neg (show ¬ nI 3 = 2 by decide), jn_e, if_pos (show nI 3 = 3 by decide), show F_M_in (nI 3) 1 2 = some 0 by decide, Option.bind_some, jn_e, if_pos rfl, jn_e, if_pos (show nI 3 = 3 by decide), has0 h3 h7.1, h5.1, Option.bind_some]
        by_cases c0 : σ 0 0 = 0
        · rw [if_pos c0, if_pos rfl, c0, if_pos (show nI 0 = 0 by decide)]
          exact ⟨_, _, _, rfl, rfl, I⟩
        · have c0' : ¬ nI (σ 0 0) = 0 := fun q => c0 ((nI_eq (a := σ 0 0) (b := 0) (by omega) (by omega)).mp q)
          rw [if_neg c0, if_neg one_ne, if_neg c0']
          rcases desk_c b with ⟨w, hw, rfl, d1, d2⟩ | ⟨d1, d2⟩
          · rw [d1, d2, Option.bind_some, Option.bind_some, if_neg one_ne, if_neg one_ne]
            exact term_add I (k := 3) (w := w) (by omega) hw (fun _ => rfl)
          · rw [d1, d2, Option.bind_some, Option.bind_some, if_pos rfl, if_pos rfl]
            exact ⟨_, _, _, rfl, rfl, I⟩
    · rw [e, Option.bind_some, Option.bind_some, if_pos rfl, if_pos rfl]
      exact ⟨_, _, _, rfl, rfl, I⟩
theorem st_image (I : Inv μ ν μ' ν') : ∃ r μ1 μ1', F_BT_image μ = some (r, μ1) ∧ F_M_image μ' = some (r, μ1') ∧ Inv μ1 ν μ1' ν' := by
  obtain ⟨n, rsf, L, tx, σ, τ, im, h1, h2, hs, h8, h9, h10, h11, h12⟩ := id I
  obtain ⟨h3, h4, h5, h6, h7⟩ := id hs
  have hn := h1.1
  have C := h7.2.1
  obtain ⟨μ1, x1, xo, xs, xx⟩ := x_becomes (b := 80) (c := 40) (by omega) ⟨⟨rfl, rfl⟩, ⟨rfl, rfl⟩, rfl, rfl⟩ h3 h4 C
  obtain ⟨a1, A1, A2, A3, A4⟩ := L_M_image_71_c (fun (μ20 : Mm) => L_M_image_133 (fun (μ25 : Mm) => L_M_image_159 (fun (μ32 : Mm) => L_M_image_196 (fun (μ39 : Mm) => L_M_image_234 (fun (μ46 : Mm) => some ((μ46 0 0), μ46)) fu 0 μ39) fu 0 μ32) fu 0 μ25) fu 0 μ20) 6 0 (by omega) fu (fu_gt (by omega)) 0 rfl (imS8 μ')
  obtain ⟨a2, B1, B2, B3, B4⟩ := L_M_image_133_c (fun (μ25 : Mm) => L_M_image_159 (fun (μ32 : Mm) => L_M_image_196 (fun (μ39 : Mm) => L_M_image_234 (fun (μ46 : Mm) => some ((μ46 0 0), μ46)) fu 0 μ39) fu 0 μ32) fu 0 μ25) 24 0 (by omega) fu (fu_gt (by omega)) 0 rfl a1
  obtain ⟨a3, C1, C2, C3, C4⟩ := L_M_image_159_c (fun (μ32 : Mm) => L_M_image_196 (fun (μ39 : Mm) => L_M_image_234 (fun (μ46 : Mm) => some ((μ46 0 0), μ46)) fu 0 μ39) fu 0 μ32) 5 0 (by omega) fu (fu_gt (by omega)) 0 rfl a2
  obtain ⟨a4, D1, D2, D3, D4⟩ := L_M_image_196_c (fun (μ39 : Mm) => L_M_image_234 (fun (μ46 : Mm) => some ((μ46 0 0), μ46)) fu 0 μ39) 10 0 (by omega) fu (fu_gt (by omega)) 0 rfl a3
  obtain ⟨a5, E1, E2, E3, E4⟩ := L_M_image_234_c (fun (μ46 : Mm) => some ((μ46 0 0), μ46)) 8 0 (by omega) fu (fu_gt (by omega)) 0 rfl a4
  have run : F_M_image μ' = some (a5 0 0, a5) := by
    unfold F_M_image
    simp only [lt_e]
    exact A1.trans (B1.trans (C1.trans (D1.trans E1)))
  -- what stays
  have g : ∀ c, c ≠ 0 → (c < 52 ∨ 62 < c) → a5 c = μ' c := fun c h0 hc => by
    rw [E4 c (by omega) (by omega), D4 c (by omega) (by omega), C4 c (by omega) (by omega), B4 c (by omega), A4 c (by omega) (by omega) (by omega) (by omega), imS_c _ h0]
  have g0 : a5 0 = imS8 μ' 0 := by
    rw [E4 0 (by omega) (by omega), D4 0 (by omega) (by omega), C4 0 (by omega) (by omega), B4 0 (by omega), A4 0 (by omega) (by omega) (by omega) (by omega)]
  have gj : ∀ j, (j < 43 ∨ 51 < j) → a5 0 j = μ' 0 j := fun j hj => by
    rw [g0, imS_o _ (by omega)]
  have e40 : up2 μ1 0 3 1 40 1 = nI (σ 0 0) := by
    rw [u_nc (by omega), xo 40 (by omega)]
    exact h3.1
  have gx : ∀ c, c ≠ 0 → (c < 80 ∨ 95 < c) → up2 μ1 0 3 1 c = μ c := fun c h0 hc => by
    rw [u_cf h0, xo c (by omega)]
  unfold F_BT_image
  rw [x1, Option.bind_some, lt_e, e40, run, gj 0 (by omega), h5.1]
  have r71 : ∀ p, p < 6 → a5 52 p = μ' 4 p ∧ a5 53 p = μ' 5 p ∧ a5 54 p = μ' 6 p ∧ a5 55 p = μ' 7 p := fun p hp => by
    have q := A2 p (by omega) hp
    have z : ∀ c, 52 ≤ c → c ≤ 55 → a5 c = a1 c := fun c h h' => by
      rw [E4 c (by omega) (by omega), D4 c (by omega) (by omega), C4 c (by omega) (by omega), B4 c (by omega)]
    rw [z 52 (by omega) (by omega), z 53 (by omega) (by omega), z 54 (by omega) (by omega), z 55 (by omega) (by omega), q.1, q.2.1, q.2.2.1, q.2.2.2, imS_c _ (c := 4) (by omega), imS_c _ (c := 5) (by omega), imS_c _ (c := 6) (by omega), imS_c _ (c := 7) (by omega)]
    exact ⟨rfl, rfl, rfl, rfl⟩
  have r133 : ∀ p, p < 24 → a5 56 p = μ' 8 p := fun p hp => by
    rw [E4 56 (by omega) (by omega), D4 56 (by omega) (by omega), C4 56 (by omega) (by omega), B2 p (by omega) hp, A4 8 (by omega) (by omega) (by omega) (by omega), imS_c _ (by omega)]
  have r159 : ∀ p, p < 5 → a5 57 p = μ' 35 p ∧ a5 58 p = μ' 36 p := fun p hp => by
    have q := C2 p (by omega) hp
    rw [E4 57 (by omega) (by omega), D4 57 (by omega) (by omega), E4 58 (by omega) (by omega), D4 58 (by omega) (by omega), q.1, q.2, B4 35 (by omega), B4 36 (by omega), A4 35 (by omega) (by omega) (by omega) (by omega), A4 36 (by omega) (by omega) (by omega) (by omega), imS_c _ (c := 35) (by omega), imS_c _ (c := 36) (by omega)]
    exact ⟨rfl, rfl⟩
  have r196 : ∀ p, p < 10 → a5 59 p = μ' 39 p ∧ a5 60 p = μ' 40 p := fun p hp => by
    have q := D2 p (by omega) hp
    rw [E4 59 (by omega) (by omega), E4 60 (by omega) (by omega), q.1, q.2, C4 39 (by omega) (by omega), C4 40 (by omega) (by omega), B4 39 (by omega), B4 40 (by omega), A4 39 (by omega) (by omega) (by omega) (by omega), A4 40 (by omega) (by omega) (by omega) (by omega), imS_c _ (c := 39) (by omega), imS_c _ (c := 40) (by omega)]
    exact ⟨rfl, rfl⟩
  have r234 : ∀ p, p < 8 → a5 61 p = μ' 41 p ∧ a5 62 p = μ' 42 p := fun p hp => by
    have q := E2 p (by omega) hp
    rw [q.1, q.2, D4 41 (by omega) (by omega), D4 42 (by omega) (by omega), C4 41 (by omega) (by omega), C4 42 (by omega) (by omega), B4 41 (by omega), B4 42 (by omega), A4 41 (by omega) (by omega) (by omega) (by omega), A4 42 (by omega) (by omega) (by omega) (by omega), imS_c _ (c := 41) (by omega), imS_c _ (c := 42) (by omega)]
    exact ⟨rfl, rfl⟩
  have c5 := C.1
  have c10 := C.2.1
  have c8 := C.2.2.1
  refine ⟨_, _, _, rfl, rfl, n, rsf, L, tx, σ, σ, true, h1.g (by rw [gx 1 (by omega) (by omega)]) (fun i hi => ⟨gx _ (by omega) (by omega), by rw [gx 10 (by omega) (by omega)]⟩) (gj 9 (by omega)) (fun c h h' => g c (by omega) (by omega)), ?_, now_same hs (fun c h h' => gx c (by omega) (by omega)) (fun c hc => g c (by omega) (by omega)) (fun j hj => gj j (by omega)), ⟨u_eq rfl rfl, ?_, fun _ => ⟨xs.keep (fun c h h' => u_cf (by omega)), xx.keep (fun c h h' => u_cf (by omega)) (u_nc (by omega)), ?_, h7⟩⟩, ?_, h10.keep (gx 21 (by omega) (by omega)) (gx 22 (by omega) (by omega)) (g 65 (by omega) (by omega)) (g 66 (by omega) (by omega)), fun i hi => by rw [g 25 (by omega) (by omega)]; exact h11 i hi, (gj 27 (by omega)).trans h12⟩
  · unfold TX
    rw [gx 10 (by omega) (by omega), gx (3 + n) (by omega) (by omega), gj 11 (by omega), g 14 (by omega) (by omega)]
    exact h2
  · rw [g0, imS_s43]
    rfl
  · refine ⟨by rw [g0, imS_s44]; exact h6.1, by rw [g0, imS_s45]; exact h5.1, by rw [g0, imS_s46]; exact h5.2.2.2.1, by rw [g0, imS_s47]; exact h5.2.2.1, by rw [g0, imS_s48]; exact h5.2.1, fun p hp => ?_, fun i hi => ?_, ⟨by rw [g0, imS_s49]; exact h6.2.1.1, fun i hi => ?_⟩, ⟨by rw [g0, imS_s50]; exact h6.2.2.1.1, fun i hi => ?_⟩, ⟨by rw [g0, imS_s51]; exact h6.2.2.2.1, fun i hi => ?_⟩⟩
    · obtain ⟨q1, q2, q3, q4⟩ := r71 p hp
      rw [q1, q2, q3, q4]
      exact ⟨h5.2.2.2.2.1 p hp, h5.2.2.2.2.2.1 p hp, h5.2.2.2.2.2.2.1 p hp, h5.2.2.2.2.2.2.2.1 p hp⟩
    · rw [r133 i hi]
      exact h5.2.2.2.2.2.2.2.2 i hi
    · obtain ⟨q1, q2⟩ := r159 i (by omega)
      rw [q1, q2]
      exact h6.2.1.2 i hi
    · obtain ⟨q1, q2⟩ := r196 i (by omega)
      rw [q1, q2]
      exact h6.2.2.1.2 i hi
    · obtain ⟨q1, q2⟩ := r234 i (by omega)
      rw [q1, q2]
      exact h6.2.2.2.2 i hi
  · unfold TR at h9 ⊢
    rw [gx 11 (by omega) (by omega), gx 12 (by omega) (by omega), gj 63 (by omega), g 64 (by omega) (by omega)]
    exact h9
theorem st_undo (I : Inv μ ν μ' ν') : ∃ r μ1 μ1', F_BT_undo μ = some (r, μ1) ∧ F_M_undo μ' = some (r, μ1') ∧ Inv μ1 ν μ1' ν' := by
  obtain ⟨n, rsf, L, tx, σ, τ, im, h1, h2, hs, h8, h9, h10, h11, h12⟩ := id I
  have hn := h1.1
  unfold F_BT_undo F_M_undo
  simp only [lt_e]
  rw [h8.1, h8.2.1, ite_b0, ite_b0]
  by_cases hi : ¬ im = true
  · rw [if_neg hi, if_neg hi]
    exact ⟨_, _, _, rfl, rfl, I⟩
  · replace hi : im = true := Decidable.byContradiction hi
    rw [if_pos hi, if_pos hi]
    obtain ⟨t1, t2, t3, t4⟩ := h8.2.2 hi
    have C := t4.2.1
    have c5 := C.1
    have c10 := C.2.1
    have c8 := C.2.2.1
    obtain ⟨μ1, x1, xo, xs, xx⟩ := x_becomes (b := 40) (c := 80) (by omega) ⟨⟨rfl, rfl⟩, ⟨rfl, rfl⟩, rfl, rfl⟩ t1 t2 C
    obtain ⟨a1, A1, A2, A3, A4⟩ := L_M_undo_76_c (fun (μ19 : Mm) => L_M_undo_138 (fun (μ24 : Mm) => L_M_undo_164 (fun (μ31 : Mm) => L_M_undo_201 (fun (μ38 : Mm) => L_M_undo_239 (fun (μ45 : Mm) => some ((μ45 0 0), μ45)) fu 0 μ38) fu 0 μ31) fu 0 μ24) fu 0 μ19) 6 0 (by omega) fu (fu_gt (by omega)) 0 rfl (unS7 μ')
    obtain ⟨a2, B1, B2, B3, B4⟩ := L_M_undo_138_c (fun (μ24 : Mm) => L_M_undo_164 (fun (μ31 : Mm) => L_M_undo_201 (fun (μ38 : Mm) => L_M_undo_239 (fun (μ45 : Mm) => some ((μ45 0 0), μ45)) fu 0 μ38) fu 0 μ31) fu 0 μ24) 24 0 (by omega) fu (fu_gt (by omega)) 0 rfl a1
    obtain ⟨a3, C1, C2, C3, C4⟩ := L_M_undo_164_c (fun (μ31 : Mm) => L_M_undo_201 (fun (μ38 : Mm) => L_M_undo_239 (fun (μ45 : Mm) => some ((μ45 0 0), μ45)) fu 0 μ38) fu 0 μ31) 5 0 (by omega) fu (fu_gt (by omega)) 0 rfl a2
    obtain ⟨a4, D1, D2, D3, D4⟩ := L_M_undo_201_c (fun (μ38 : Mm) => L_M_undo_239 (fun (μ45 : Mm) => some ((μ45 0 0), μ45)) fu 0 μ38) 10 0 (by omega) fu (fu_gt (by omega)) 0 rfl a3
    obtain ⟨a5, E1, E2, E3, E4⟩ := L_M_undo_239_c (fun (μ45 : Mm) => some ((μ45 0 0), μ45)) 8 0 (by omega) fu (fu_gt (by omega)) 0 rfl a4
    have run : L_M_undo_76 (fun (μ19 : Mm) => L_M_undo_138 (fun (μ24 : Mm) => L_M_undo_164 (fun (μ31 : Mm) => L_M_undo_201 (fun (μ38 : Mm) => L_M_undo_239 (fun (μ45 : Mm) => some ((μ45 0 0), μ45)) fu 0 μ38) fu 0 μ31) fu 0 μ24) fu 0 μ19) fu 0 (unS7 μ') = some (a5 0 0, a5) := A1.trans (B1.trans (C1.trans (D1.trans E1)))
    have g : ∀ c, c ≠ 0 → (c < 4 ∨ 42 < c ∨ (8 < c ∧ c ≠ 35 ∧ c ≠ 36 ∧ c < 39)) → a5 c = μ' c := fun c h0 hc => by
      rw [E4 c (by omega) (by omega), D4 c (by omega) (by omega), C4 c (by omega) (by omega), B4 c (by omega), A4 c (by omega) (by omega) (by omega) (by omega), unS_c _ h0]
    have g0 : a5 0 = unS7 μ' 0 := by
      rw [E4 0 (by omega) (by omega), D4 0 (by omega) (by omega), C4 0 (by omega) (by omega), B4 0 (by omega), A4 0 (by omega) (by omega) (by omega) (by omega)]
    have gj : ∀ j, (3 < j ∧ j ≠ 10 ∧ j ≠ 34 ∧ j ≠ 37 ∧ j ≠ 38) → a5 0 j = μ' 0 j := fun j hj => by
      rw [g0, unS_o _ (by omega)]
    have r71 : ∀ p, p < 6 → a5 4 p = μ' 52 p ∧ a5 5 p = μ' 53 p ∧ a5 6 p = μ' 54 p ∧ a5 7 p = μ' 55 p := fun p hp => by
      have q := A2 p (by omega) hp
      have z : ∀ c, 4 ≤ c → c ≤ 7 → a5 c = a1 c := fun c h h' => by
        rw [E4 c (by omega) (by omega), D4 c (by omega) (by omega), C4 c (by omega) (by omega), B4 c (by omega)]
      rw [z 4 (by omega) (by omega), z 5 (by omega) (by omega), z 6 (by omega) (by omega), z 7 (by omega) (by omega), q.1, q.2.1, q.2.2.1, q.2.2.2, unS_c _ (c := 52) (by omega), unS_c _ (c := 53) (by omega), unS_c _ (c := 54) (by omega), unS_c _ (c := 55) (by omega)]
      exact ⟨rfl, rfl, rfl, rfl⟩
    have r133 : ∀ p, p < 24 → a5 8 p = μ' 56 p := fun p hp => by
      rw [E4 8 (by omega) (by omega), D4 8 (by omega) (by omega), C4 8 (by omega) (by omega), B2 p (by omega) hp, A4 56 (by omega) (by omega) (by omega) (by omega), unS_c _ (by omega)]
    have r159 : ∀ p, p < 5 → a5 35 p = μ' 57 p ∧ a5 36 p = μ' 58 p := fun p hp => by
      have q := C2 p (by omega) hp
      rw [E4 35 (by omega) (by omega), D4 35 (by omega) (by omega), E4 36 (by omega) (by omega), D4 36 (by omega) (by omega), q.1, q.2, B4 57 (by omega), B4 58 (by omega), A4 57 (by omega) (by omega) (by omega) (by omega), A4 58 (by omega) (by omega) (by omega) (by omega), unS_c _ (c := 57) (by omega), unS_c _ (c := 58) (by omega)]
      exact ⟨rfl, rfl⟩
    have r196 : ∀ p, p < 10 → a5 39 p = μ' 59 p ∧ a5 40 p = μ' 60 p := fun p hp => by
      have q := D2 p (by omega) hp
      rw [E4 39 (by omega) (by omega), E4 40 (by omega) (by omega), q.1, q.2, C4 59 (by omega) (by omega), C4 60 (by omega) (by omega), B4 59 (by omega), B4 60 (by omega), A4 59 (by omega) (by omega) (by omega) (by omega), A4 60 (by omega) (by omega) (by omega) (by omega), unS_c _ (c := 59) (by omega), unS_c _ (c := 60) (by omega)]
      exact ⟨rfl, rfl⟩
    have r234 : ∀ p, p < 8 → a5 41 p = μ' 61 p ∧ a5 42 p = μ' 62 p := fun p hp => by
      have q := E2 p (by omega) hp
      rw [q.1, q.2, D4 61 (by omega) (by omega), D4 62 (by omega) (by omega), C4 61 (by omega) (by omega), C4 62 (by omega) (by omega), B4 61 (by omega), B4 62 (by omega), A4 61 (by omega) (by omega) (by omega) (by omega), A4 62 (by omega) (by omega) (by omega) (by omega), unS_c _ (c := 61) (by omega), unS_c _ (c := 62) (by omega)]
      exact ⟨rfl, rfl⟩
    obtain ⟨u1, u2, u3, u4, u5, u6, u7, u8, u9, u10⟩ := t3
    have run' : L_M_undo_76 (fun (μ19 : Mm) => L_M_undo_138 (fun (μ24 : Mm) => L_M_undo_164 (fun (μ31 : Mm) => L_M_undo_201 (fun (μ38 : Mm) => L_M_undo_239 (fun (μ45 : Mm) => some ((μ45 0 0), μ45)) fu 0 μ38) fu 0 μ31) fu 0 μ24) fu 0 μ19) fu 0 (unS7 μ') = some (nI (τ 0 0), a5) := by
      rw [run, g0, unS_s0, u2]
    have e40 : μ1 40 1 = nI (τ 0 0) := xs.1
    rw [x1, Option.bind_some, e40]
    refine ⟨nI (τ 0 0), μ1, a5, rfl, run', Inv.now (σ := τ) h1 h2 h8 h9 h10 h11 h12 (fun c hc => xo c (by omega)) ⟨fun c hc => g c (by omega) (by omega), fun j hj => gj j (by omega)⟩ ⟨xs, xx, ⟨by rw [g0, unS_s0]; exact u2, by rw [g0, unS_s3]; exact u5, by rw [g0, unS_s2]; exact u4, by rw [g0, unS_s1]; exact u3, fun p hp => ?_, fun p hp => ?_, fun p hp => ?_, fun p hp => ?_, fun i hi => ?_⟩, ⟨by rw [g0, unS_s10]; exact u1, ⟨by rw [g0, unS_s34]; exact u8.1, fun i hi => ?_⟩, ⟨by rw [g0, unS_s37]; exact u9.1, fun i hi => ?_⟩, ⟨by rw [g0, unS_s38]; exact u10.1, fun i hi => ?_⟩⟩, t4⟩⟩
    · rw [(r71 p hp).1]
      exact (u6 p hp).1
    · rw [(r71 p hp).2.1]
      exact (u6 p hp).2.1
    · rw [(r71 p hp).2.2.1]
      exact (u6 p hp).2.2.1
    · rw [(r71 p hp).2.2.2]
      exact (u6 p hp).2.2.2
    · rw [r133 i hi]
      exact u7 i hi
    · rw [(r159 i (by omega)).1, (r159 i (by omega)).2]
      exact u8.2 i hi
    · rw [(r196 i (by omega)).1, (r196 i (by omega)).2]
      exact u9.2 i hi
    · rw [(r234 i (by omega)).1, (r234 i (by omega)).2]
      exact u10.2 i hi
end CMD
