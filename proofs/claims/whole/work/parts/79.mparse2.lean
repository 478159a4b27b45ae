/-! the reference reads what must hold -/
def K0 : Mm → Option (Int32 × Mm) := fun (μ31 : Mm) => some (0, μ31)
def eF (c n : Nat) (v : Int32) (μ9 : Mm) : Option (Int32 × Mm) := (wrI μ9 19 60 (nI c) (μ9 0 22)).bind fun μ11 => (if (μ11 0 23) = 0 then some (1, μ11) else (if v = 41 then lt_ (up2 μ11 0 23 ((μ11 0 23) - 1)) fun μ12 => lt_ (up2 μ12 0 24 ((μ12 0 24) - 1)) fun μ13 => lt_ (up2 μ13 0 12 ((μ13 0 12) + 1)) fun μ14 => (F_M_whole μ14).bind fun μ15 => L_M_takesE_22 (nI c) K0 n 0 μ15 else K0 μ11))
theorem e_push {c n i S w o b : Nat} {g : Nat → Nat} {μ : Mm} (G : GM g μ) (hi : i ≤ 1000) (h : SE i S w o μ) (hb : b = 33 ∨ b = 40) (hg : g i = b) (ho : o < 4) (hw : w < 101) : ∃ μ1, L_M_takesE_22 (nI c) K0 (n + 1) 1 μ = L_M_takesE_22 (nI c) K0 n 1 μ1 ∧ SE (i + 1) S (w + 1) (o + 1) μ1 ∧ μ1 21 w = nI b ∧ FE c S w μ μ1 := by
  obtain ⟨h1, h2, h3, h4⟩ := h
  have hs : sI (g i) = nI b := by
    rw [hg]
    unfold sI
    rw [if_neg (by omega)]
  have e3 : up2 μ 0 24 (nI (o + 1)) 0 23 = nI w := (u_nj (by omega)).trans h3
  have e3' : up2 (up2 μ 0 24 (nI (o + 1))) 21 w (nI b) 0 23 = nI w := (u_nc (by omega)).trans e3
  have e1 : up2 (up2 (up2 μ 0 24 (nI (o + 1))) 21 w (nI b)) 0 23 (nI (w + 1)) 0 12 = nI i := by rw [u_nj (by omega), u_nc (by omega), u_nj (by omega)]; exact h1
  have t : L_M_takesE_22 (nI c) K0 (n + 1) 1 μ = L_M_takesE_22 (nI c) K0 n 1 (up2 (up2 (up2 (up2 μ 0 24 (nI (o + 1))) 21 w (nI b)) 0 23 (nI (w + 1))) 0 12 (nI (i + 1))) := by
    rw [L_M_takesE_22, m_next G h1 hi, Option.bind_some, if_neg one_ne, jn_e, hs]
    have key : (if (μ 0 24) = 4 then some (0, μ) else lt_ (up2 μ 0 24 ((μ 0 24) + 1)) fun μ26 => (wrI μ26 21 101 (μ26 0 23) (nI b)).bind fun μ27 => lt_ (up2 μ27 0 23 ((μ27 0 23) + 1)) fun μ28 => lt_ (up2 μ28 0 12 ((μ28 0 12) + 1)) fun μ29 => L_M_takesE_22 (nI c) K0 n 1 μ29) = L_M_takesE_22 (nI c) K0 n 1 (up2 (up2 (up2 (up2 μ 0 24 (nI (o + 1))) 21 w (nI b)) 0 23 (nI (w + 1))) 0 12 (nI (i + 1))) := by
      rw [h4, q4, ite_eq (by omega) (by omega), if_neg (by omega), lt_e, nI_1, e3, wrI_nI hw (by omega), Option.bind_some, lt_e, e3', nI_1, lt_e, e1, nI_1]
    rcases hb with rfl | rfl
    · rw [if_pos (show nI 33 = 33 by decide)]; exact key
    · rw [if_neg (show ¬ nI 40 = 33 by decide), if_pos (show nI 40 = 40 by decide)]; exact key
  refine ⟨_, t, ⟨u_eq rfl rfl, ?_, (u_nj (by omega)).trans (u_eq rfl rfl), ?_⟩, ?_, (((FE.rf.u0 (by omega)).u21 (Nat.le_refl w)).u0 (by omega)).u0 (by omega)⟩
  · rw [u_nj (by omega), u_nj (by omega), u_nc (by omega), u_nj (by omega)]; exact h2
  · rw [u_nj (by omega), u_nj (by omega), u_nc (by omega)]; exact u_eq rfl rfl
  · rw [u_nc (by omega), u_nc (by omega)]; exact u_eq rfl rfl
theorem e_full {c n i S w b : Nat} {g : Nat → Nat} {μ : Mm} (G : GM g μ) (hi : i ≤ 1000) (h : SE i S w 4 μ) (hb : b = 33 ∨ b = 40) (hg : g i = b) : L_M_takesE_22 (nI c) K0 (n + 1) 1 μ = some (0, μ) := by
  have hs : sI (g i) = nI b := by
    rw [hg]
    unfold sI
    rw [if_neg (by omega)]
  rw [L_M_takesE_22, m_next G h.1 hi, Option.bind_some, if_neg one_ne, jn_e, hs, h.2.2.2, if_pos (show nI 4 = 4 by decide)]
  rcases hb with rfl | rfl
  · rw [if_pos (show nI 33 = 33 by decide)]
  · rw [if_neg (show ¬ nI 40 = 33 by decide), if_pos (show nI 40 = 40 by decide)]
theorem e_test {c n i S w o : Nat} {g : Nat → Nat} {μ : Mm} (G : GM g μ) (hi : i ≤ 1000) (h : SE i S w o μ) (h1 : g i ≠ 33) (h2 : g i ≠ 40) : L_M_takesE_22 (nI c) K0 (n + 1) 1 μ = (F_M_takesTest μ).bind fun p_ => match p_ with | (v23, μ24) => (if v23 = 0 then some (0, μ24) else L_M_takesE_22 (nI c) K0 n 0 μ24) := by
  rw [L_M_takesE_22, m_next G h.1 hi, Option.bind_some, if_neg one_ne, jn_e, ite_s (K := 33) (G.lt i) (k := 33) (by omega) rfl, ite_s (K := 40) (G.lt i) (k := 40) (by omega) rfl, if_neg h1, if_neg h2]
theorem e_op {c n i S w o b : Nat} {g : Nat → Nat} {μ : Mm} (G : GM g μ) (hi : i ≤ 1000) (h : SE i S w o μ) (hb : b = 38 ∨ b = 124) (hg : g i = b) : L_M_takesE_22 (nI c) K0 (n + 1) 0 μ = (F_M_settle (nI b) μ).bind fun μ17 => (wrI μ17 21 101 (μ17 0 23) (nI b)).bind fun μ19 => lt_ (up2 μ19 0 23 ((μ19 0 23) + 1)) fun μ20 => lt_ (up2 μ20 0 12 ((μ20 0 12) + 1)) fun μ21 => L_M_takesE_22 (nI c) K0 n 1 μ21 := by
  have hs : sI (g i) = nI b := by
    rw [hg]
    unfold sI
    rw [if_neg (by omega)]
  rw [L_M_takesE_22, m_next G h.1 hi, Option.bind_some, if_pos rfl, jn_e, hs]
  rcases hb with rfl | rfl
  · rw [if_pos (show nI 38 = 38 by decide)]
  · rw [if_neg (show ¬ nI 124 = 38 by decide), if_pos (show nI 124 = 124 by decide)]
theorem e_fin {c n i S w o : Nat} {g : Nat → Nat} {μ : Mm} (G : GM g μ) (hi : i ≤ 1000) (h : SE i S w o μ) (h1 : g i ≠ 38) (h2 : g i ≠ 124) : L_M_takesE_22 (nI c) K0 (n + 1) 0 μ = (F_M_settle 124 μ).bind fun μ9 => eF c n (sI (g i)) μ9 := by
  rw [L_M_takesE_22, m_next G h.1 hi, Option.bind_some, if_pos rfl, jn_e, ite_s (K := 38) (G.lt i) (k := 38) (by omega) rfl, ite_s (K := 124) (G.lt i) (k := 124) (by omega) rfl, if_neg h1, if_neg h2]
  rfl
/-! what waits is settled -/
def setS (s : Int32) (n : Nat) (μ : Mm) : Option Mm := L_M_settle_0 s (fun (μ16 : Mm) => some μ16) n μ
theorem settle_e {s : Int32} {μ : Mm} : F_M_settle s μ = setS s (fu + 1) μ := by
  unfold setS
  rw [L_M_settle_0]
  rfl
theorem set_stop {i S w o n : Nat} {s : Int32} {μ : Mm} (h : SE i S w o μ) (hw : w ≤ 101) (ht : w = 0 ∨ ∃ t, t < 128 ∧ μ 21 (w - 1) = nI t ∧ t ≠ 38 ∧ (t = 124 → s = 38)) : setS s (n + 1) μ = some μ := by
  unfold setS
  rw [L_M_settle_0, h.2.2.1, q0, ite_le (by omega) (by omega)]
  by_cases c0 : w ≤ 0
  · rw [if_pos c0]
  · rcases ht with q | ⟨t, t1, t2, t3, t4⟩
    · omega
    · have e : nI w - 1 = nI (w - 1) := by
        obtain ⟨v, rfl⟩ : ∃ v, w = v + 1 := ⟨w - 1, by omega⟩
        exact nI_s v 1
      rw [if_neg c0, e, rdI_nI (by omega) (by omega), Option.bind_some, jn_e, Option.bind_some, t2, show (38 : Int32) = nI 38 from rfl, show (124 : Int32) = nI 124 from rfl, ite_eq (by omega) (by omega), ite_eq (by omega) (by omega), if_neg t3]
      by_cases c1 : t = 124
      · rw [if_pos c1, if_pos (show s = nI 38 from t4 c1)]
      · rw [if_neg c1]
theorem set_pop {c i S w o n t : Nat} {s : Int32} {μ : Mm} (h : SE i S (w + 1) o μ) (hw : w < 101) (hS : S < 600) (ht : μ 21 w = nI t) (hb : t = 38 ∨ (t = 124 ∧ s ≠ 38)) : ∃ μ1, setS s (n + 1) μ = setS s n μ1 ∧ SE i (S + 1) w o μ1 ∧ FE c S 1000 μ μ1 ∧ μ1 20 S = cd (10000 + t) := by
  obtain ⟨h1, h2, h3, h4⟩ := id h
  have e : nI (w + 1) - 1 = nI w := nI_s w 1
  have h' : SE i S w o (up2 μ 0 23 (nI w)) := ⟨by rw [u_nj (by omega)]; exact h1, by rw [u_nj (by omega)]; exact h2, u_eq rfl rfl, by rw [u_nj (by omega)]; exact h4⟩
  have e21 : up2 μ 0 23 (nI w) 21 w = nI t := (u_nc (by omega)).trans ht
  have ec : -nI t = cd (10000 + t) := by
    rcases hb with rfl | ⟨rfl, _⟩ <;> decide
  obtain ⟨μ1, a1, a2, a3, a4⟩ := m_emits (c := c) (x := -nI t) h' hS
  refine ⟨μ1, ?_, a2, ((FE.rf (W := 1000) (Q := S)).u0 (by omega)).tr a3 (Nat.le_refl _) (Nat.le_refl _) (Nat.le_refl _) (Nat.le_refl _), a4.trans ec⟩
  have key : (lt_ (up2 μ 0 23 ((μ 0 23) - 1)) fun μ11 => (rdI (μ11 21) 101 (μ11 0 23)).bind fun v12 => (F_M_emits (-v12) μ11).bind fun μ13 => L_M_settle_0 s (fun (μ16 : Mm) => some μ16) n μ13) = L_M_settle_0 s (fun (μ16 : Mm) => some μ16) n μ1 := by
    rw [lt_e, h3, e, h'.2.2.1, rdI_nI hw (by omega), Option.bind_some, e21, a1, Option.bind_some]
  unfold setS
  rw [L_M_settle_0, h3, q0, ite_le (by omega) (by omega), if_neg (by omega), e, rdI_nI hw (by omega), Option.bind_some, jn_e, Option.bind_some, ht]
  rw [h3, e] at key
  rcases hb with rfl | ⟨rfl, hs⟩
  · rw [if_pos (show nI 38 = 38 by decide)]
    exact key
  · rw [if_neg (show ¬ nI 124 = 38 by decide), if_pos (show nI 124 = 124 by decide), if_neg hs]
    exact key
/-! what is pending -/
def nO (A : Option Er) : Nat := match A with
  | none => 0
  | some _ => 1
def oc (A : Option Er) : List Nat := match A with
  | none => []
  | some a => a.1
theorem lenO_e (A : Option Er) : lenO A = (oc A).length + nO A := by cases A <;> rfl
def PD (A C : Option Er) (wb : Nat) (μ : Mm) : Prop := (nO A = 1 → μ 21 wb = nI 124) ∧ (nO C = 1 → μ 21 (wb + nO A) = nI 38)
def BB (w : Nat) (μ : Mm) : Prop := w = 0 ∨ μ 21 (w - 1) = nI 40
theorem BB.nb {w : Nat} {μ : Mm} (h : BB w μ) : NB w μ := by
  rcases h with h | h
  · exact Or.inl h
  · exact Or.inr ⟨40, by omega, by omega, h⟩
theorem BB.mv {w W Q c : Nat} {μ μ1 : Mm} (h : BB w μ) (f : FE c Q W μ μ1) (hw : w ≤ W) : BB w μ1 := by
  rcases h with h | h
  · exact Or.inl h
  · by_cases c0 : w = 0
    · exact Or.inl c0
    · exact Or.inr ((f.2.2.2.2 _ (by omega)).trans h)
/-- what is joined by & is settled -/
theorem set_c {c i wb o n S0 : Nat} {s : Int32} {A C : Option Er} {S : Er} {μ : Mm} (h : SE i (S0 + (oc A).length + (oc C).length + S.1.length) (wb + nO A + nO C) o μ) (hw : wb + nO A + nO C ≤ 101) (hS : S0 + (oc A).length + (oc C).length + S.1.length + nO C ≤ 600) (hP : PD A C wb μ) (hR : Rp (μ 20) S0 (oc A ++ (oc C ++ S.1))) : ∃ n1 μ1, setS s (n + 1) μ = setS s n1 μ1 ∧ n ≤ n1 ∧ SE i (S0 + (oc A).length + (cT C S).1.length) (wb + nO A) o μ1 ∧ FE c S0 1000 μ μ1 ∧ Rp (μ1 20) S0 (oc A ++ (cT C S).1) := by
  cases C with
  | none => exact ⟨n + 1, μ, rfl, by omega, h, FE.rf, hR⟩
  | some a =>
    obtain ⟨μ1, a1, a2, a3, a4⟩ := set_pop (c := c) (n := n) (t := 38) (s := s) (w := wb + nO A) h (by have : nO (some a) = 1 := rfl; omega) (by have : nO (some a) = 1 := rfl; omega) (hP.2 rfl) (Or.inl rfl)
    have el : (cT (some a) S).1 = a.1 ++ S.1 ++ [10038] := rfl
    refine ⟨n, μ1, a1, Nat.le_refl _, ?_, a3.tr FE.rf (Q1 := _) (W1 := 1000) (Q2 := _) (W2 := 1000) (by omega) (Nat.le_refl _) (Nat.le_refl _) (Nat.le_refl _), ?_⟩
    · rw [el, List.length_append, List.length_append]
      exact (show S0 + (oc A).length + a.1.length + S.1.length + 1 = S0 + (oc A).length + (a.1.length + S.1.length + 1) by omega) ▸ a2
    · rw [el, ← List.append_assoc]
      refine (hR.mv (fun q q1 q2 => a3.2.2.2.1 q ?_)).app (Rp.one ?_)
      · rw [List.length_append, List.length_append] at q2
        show q < S0 + (oc A).length + a.1.length + S.1.length
        have : (oc (some a)).length = a.1.length := rfl
        omega
      · rw [List.length_append, List.length_append]
        exact (show S0 + (oc A).length + a.1.length + S.1.length = S0 + ((oc A).length + (a.1.length + S.1.length)) by omega) ▸ a4
theorem settle38 {c i wb o S0 : Nat} {A C : Option Er} {S : Er} {μ : Mm} (h : SE i (S0 + (oc A).length + (oc C).length + S.1.length) (wb + nO A + nO C) o μ) (hw : wb + nO A + nO C ≤ 101) (hS : S0 + (oc A).length + (oc C).length + S.1.length + nO C ≤ 600) (hP : PD A C wb μ) (hB : BB wb μ) (hR : Rp (μ 20) S0 (oc A ++ (oc C ++ S.1))) : ∃ μ1, F_M_settle (nI 38) μ = some μ1 ∧ SE i (S0 + (oc A).length + (cT C S).1.length) (wb + nO A) o μ1 ∧ FE c S0 1000 μ μ1 ∧ Rp (μ1 20) S0 (oc A ++ (cT C S).1) := by
  obtain ⟨n1, μ1, a1, a2, a3, a4, a5⟩ := set_c (c := c) (n := fu) (s := nI 38) h hw hS hP hR
  obtain ⟨N1, rfl⟩ : ∃ N, n1 = N + 1 := ⟨n1 - 1, by have := fu_gt (n := 0) (by omega); omega⟩
  refine ⟨μ1, ?_, a3, a4, a5⟩
  rw [settle_e, a1]
  refine set_stop a3 (by omega) ?_
  have hp1 := hP.1
  cases A with
  | none =>
    rcases hB with q | q
    · exact Or.inl q
    · by_cases c0 : wb = 0
      · exact Or.inl c0
      · exact Or.inr ⟨40, by omega, (a4.2.2.2.2 _ (by have : nO (none : Option Er) = 0 := rfl; omega)).trans q, by omega, fun x => by omega⟩
  | some a => exact Or.inr ⟨124, by omega, (a4.2.2.2.2 _ (by have : nO (some a) = 1 := rfl; omega)).trans (hp1 rfl), by omega, fun _ => rfl⟩
theorem settle124 {c i wb o S0 : Nat} {A C : Option Er} {S : Er} {μ : Mm} (h : SE i (S0 + (oc A).length + (oc C).length + S.1.length) (wb + nO A + nO C) o μ) (hw : wb + nO A + nO C ≤ 101) (hS : S0 + (oc A).length + (oc C).length + S.1.length + nO C + nO A ≤ 600) (hP : PD A C wb μ) (hB : BB wb μ) (hR : Rp (μ 20) S0 (oc A ++ (oc C ++ S.1))) : ∃ μ1, F_M_settle 124 μ = some μ1 ∧ SE i (S0 + (aT A (cT C S)).1.length) wb o μ1 ∧ FE c S0 1000 μ μ1 ∧ Rp (μ1 20) S0 (aT A (cT C S)).1 := by
  obtain ⟨n1, μ1, a1, a2, a3, a4, a5⟩ := set_c (c := c) (n := fu) (s := 124) h hw (by omega) hP hR
  obtain ⟨N1, rfl⟩ : ∃ N, n1 = N + 1 + 1 := ⟨n1 - 2, by have := fu_gt (n := 1) (by omega); omega⟩
  have hlc := cT_len C S
  have hle := lenO_e C
  rw [settle_e, a1]
  have base : ∀ n μ2 Sx, SE i Sx wb o μ2 → FE c S0 1000 μ μ2 → setS 124 (n + 1) μ2 = some μ2 := fun n μ2 Sx b1 b2 => by
    refine set_stop b1 (by omega) ?_
    rcases hB with q | q
    · exact Or.inl q
    · by_cases c0 : wb = 0
      · exact Or.inl c0
      · exact Or.inr ⟨40, by omega, (b2.2.2.2.2 _ (by omega)).trans q, by omega, fun x => by omega⟩
  have hp1 := hP.1
  cases A with
  | none =>
    refine ⟨μ1, base _ μ1 _ a3 a4, ?_, a4, a5⟩
    exact a3
  | some a =>
    have e1 : nO (some a) = 1 := rfl
    have e2 : (oc (some a)).length = a.1.length := rfl
    obtain ⟨μ2, b1, b2, b3, b4⟩ := set_pop (c := c) (n := N1 + 1) (t := 124) (s := 124) (w := wb) a3 (by omega) (by omega) ((a4.2.2.2.2 _ (by omega)).trans (hp1 rfl)) (Or.inr ⟨rfl, by decide⟩)
    have el : (aT (some a) (cT C S)).1 = a.1 ++ (cT C S).1 ++ [10124] := rfl
    have f2 : FE c S0 1000 μ μ2 := a4.tr b3 (Nat.le_refl _) (by omega) (Nat.le_refl _) (Nat.le_refl _)
    refine ⟨μ2, b1.trans (base _ μ2 _ b2 f2), ?_, f2, ?_⟩
    · rw [el, List.length_append, List.length_append]
      exact (show S0 + a.1.length + (cT C S).1.length + 1 = S0 + (a.1.length + (cT C S).1.length + 1) by omega) ▸ b2
    · rw [el]
      refine (a5.mv (fun q q1 q2 => b3.2.2.2.1 q ?_)).app (Rp.one ?_)
      · rw [List.length_append] at q2
        show q < S0 + a.1.length + (cT C S).1.length
        omega
      · rw [List.length_append]
        exact (show S0 + a.1.length + (cT C S).1.length = S0 + (a.1.length + (cT C S).1.length) by omega) ▸ b4
