/-! what the start gives -/
section ST
variable {s : State} {b : Nat}
theorem known_start (hts : ∀ w ∈ lw_tbl, w.before #[Value.ref b] s = true) : ∃ D : va_G, ∀ (k : Nat) (q : vw_C), vwCl[k]? = some q → u_Kn s q.1 q.2.1 q.2.2 (D.1 k) (D.2 k) := by
  obtain ⟨c0, i0, h0⟩ := u_known (C := RX0) (T := TX0) (N := 0) (n := 0) hts (fun w h => gW_in (in_X0 w h)) (hts (.instantiable RX0 0) (by decide +kernel))
  obtain ⟨c1, i1, h1⟩ := u_known (C := RX1) (T := TX1) (N := 0) (n := 0) hts (fun w h => gW_in (in_X1 w h)) (hts (.instantiable RX1 0) (by decide +kernel))
  obtain ⟨c2, i2, h2⟩ := u_known (C := RX2) (T := TX2) (N := 0) (n := 0) hts (fun w h => gW_in (in_X2 w h)) (hts (.instantiable RX2 0) (by decide +kernel))
  obtain ⟨c3, i3, h3⟩ := u_known (C := RX3) (T := TX3) (N := 14) (n := 14) hts (fun w h => gW_in (in_X3 w h)) (hts (.instantiable RX3 14) (by decide +kernel))
  obtain ⟨c4, i4, h4⟩ := u_known (C := RX4) (T := TX4) (N := 3) (n := 3) hts (fun w h => gW_in (in_X4 w h)) (hts (.instantiable RX4 3) (by decide +kernel))
  obtain ⟨c5, i5, h5⟩ := u_known (C := RX5) (T := TX5) (N := 18) (n := 18) hts (fun w h => gW_in (in_X5 w h)) (hts (.instantiable RX5 18) (by decide +kernel))
  obtain ⟨c6, i6, h6⟩ := u_known (C := RX6) (T := TX6) (N := 0) (n := 0) hts (fun w h => gW_in (in_X6 w h)) (hts (.instantiable RX6 0) (by decide +kernel))
  obtain ⟨c7, i7, h7⟩ := u_known (C := RX7) (T := TX7) (N := 0) (n := 0) hts (fun w h => gW_in (in_X7 w h)) (hts (.instantiable RX7 0) (by decide +kernel))
  obtain ⟨c8, i8, h8⟩ := u_known (C := RX8) (T := TX8) (N := 0) (n := 0) hts (fun w h => gW_in (in_X8 w h)) (hts (.instantiable RX8 0) (by decide +kernel))
  obtain ⟨c9, i9, h9⟩ := u_known (C := RX9) (T := TX9) (N := 0) (n := 0) hts (fun w h => gW_in (in_X9 w h)) (hts (.instantiable RX9 0) (by decide +kernel))
  obtain ⟨c10, i10, h10⟩ := u_known (C := RX10) (T := TX10) (N := 4) (n := 4) hts (fun w h => gW_in (in_X10 w h)) (hts (.instantiable RX10 4) (by decide +kernel))
  obtain ⟨c11, i11, h11⟩ := u_known (C := RX11) (T := TX11) (N := 10) (n := 10) hts (fun w h => gW_in (in_X11 w h)) (hts (.instantiable RX11 10) (by decide +kernel))
  obtain ⟨c12, i12, h12⟩ := u_known (C := RX12) (T := TX12) (N := 69) (n := 69) hts (fun w h => gW_in (in_X12 w h)) (hts (.instantiable RX12 69) (by decide +kernel))
  have h : ∀ k : Nat, ∃ (x : ClassId × (Nat → Nat)), ∀ q : vw_C, vwCl[k]? = some q → u_Kn s q.1 q.2.1 q.2.2 x.1 x.2 := by
    intro k
    rcases Nat.lt_or_ge k 13 with hk | hk
    · rcases (show k = 0 ∨ k = 1 ∨ k = 2 ∨ k = 3 ∨ k = 4 ∨ k = 5 ∨ k = 6 ∨ k = 7 ∨ k = 8 ∨ k = 9 ∨ k = 10 ∨ k = 11 ∨ k = 12 by omega) with rfl | rfl | rfl | rfl | rfl | rfl | rfl | rfl | rfl | rfl | rfl | rfl | rfl
      · exact ⟨(c0, i0), fun q hq => by cases hq; exact h0⟩
      · exact ⟨(c1, i1), fun q hq => by cases hq; exact h1⟩
      · exact ⟨(c2, i2), fun q hq => by cases hq; exact h2⟩
      · exact ⟨(c3, i3), fun q hq => by cases hq; exact h3⟩
      · exact ⟨(c4, i4), fun q hq => by cases hq; exact h4⟩
      · exact ⟨(c5, i5), fun q hq => by cases hq; exact h5⟩
      · exact ⟨(c6, i6), fun q hq => by cases hq; exact h6⟩
      · exact ⟨(c7, i7), fun q hq => by cases hq; exact h7⟩
      · exact ⟨(c8, i8), fun q hq => by cases hq; exact h8⟩
      · exact ⟨(c9, i9), fun q hq => by cases hq; exact h9⟩
      · exact ⟨(c10, i10), fun q hq => by cases hq; exact h10⟩
      · exact ⟨(c11, i11), fun q hq => by cases hq; exact h11⟩
      · exact ⟨(c12, i12), fun q hq => by cases hq; exact h12⟩
    · exact ⟨(0, fun _ => 0), fun q hq => by
        have := (List.getElem?_eq_some_iff.mp hq).1
        exact absurd this (Nat.not_lt.mpr hk)⟩
  exact ⟨(fun k => (Classical.choose (h k)).1, fun k => (Classical.choose (h k)).2), fun k q hq => Classical.choose_spec (h k) q hq⟩
theorem aoT {ty : FieldType} {cA : ClassId} {k : Class} {comp : ClassId} (h2 : s.vm.classes[cA]? = some k) (h3 : k.kind = .array comp ty) : ArrOfT s cA ty := fun n z => ⟨fun k h => (by cases h), k, h2, comp, h3⟩
theorem tys_start (hts : ∀ w ∈ lw_tbl, w.before #[Value.ref b] s = true) : ∃ cy : Nat → ClassId, ∀ (k : Nat) (q : ClassId × FieldType), (tyC cy)[k]? = some q → ArrOfT s q.1 q.2 ∧ va_RA s q.1 q.2 := by
  obtain ⟨c0, k0, p0, a0, b0, d0⟩ := Cond.arrayClass_spec (hts (.arrayClass .int) (by decide +kernel))
  obtain ⟨c1, k1, p1, a1, b1, d1⟩ := Cond.arrayClass_spec (hts (.arrayClass .byte) (by decide +kernel))
  obtain ⟨c2, k2, p2, a2, b2, d2⟩ := Cond.arrayClass_spec (hts (.arrayClass .long) (by decide +kernel))
  obtain ⟨c3, k3, p3, a3, b3, d3⟩ := Cond.arrayClass_spec (hts (.arrayClass .boolean) (by decide +kernel))
  obtain ⟨p4, c4, k4, e4, -, a4, b4, d4⟩ := arrayOverA_spec (hts (.arrayOver (.array .byte)) (by decide +kernel))
  obtain ⟨p5, c5, k5, e5, -, a5, b5, d5⟩ := arrayOverA_spec (hts (.arrayOver (.array .long)) (by decide +kernel))
  obtain ⟨p6, c6, k6, e6, -, a6, b6, d6⟩ := Cond.arrayOver_spec (hts (.arrayOver (.object "BesideTom$PupilKind")) (by decide +kernel))
  refine ⟨fun k => [c0, c1, c2, c3, c4, c5, c6].getD k 0, fun k q hq => ?_⟩
  have hk : k < 7 := (List.getElem?_eq_some_iff.mp hq).1
  rcases (show k = 0 ∨ k = 1 ∨ k = 2 ∨ k = 3 ∨ k = 4 ∨ k = 5 ∨ k = 6 by omega) with rfl | rfl | rfl | rfl | rfl | rfl | rfl
  · cases hq; exact ⟨aoT b0 d0, a0⟩
  · cases hq; exact ⟨aoT b1 d1, a1⟩
  · cases hq; exact ⟨aoT b2 d2, a2⟩
  · cases hq; exact ⟨aoT b3 d3, a3⟩
  · cases hq; exact ⟨aoT a4 b4, d4⟩
  · cases hq; exact ⟨aoT a5 b5, d5⟩
  · cases hq; exact ⟨aoT a6 b6, k6, p6, a6, b6, e6, d6⟩
theorem exC_start (hts : ∀ w ∈ lw_tbl, w.before #[Value.ref b] s = true) : exC s := by
  refine ⟨AOa.of (hts (.arrayOver (.array .byte)) (by decide +kernel)), AOa.of (hts (.arrayOver (.array .long)) (by decide +kernel)), va_AO.of (hts (.arrayOver (.object "BesideTom$PupilKind")) (by decide +kernel)), fun x hx => ?_, fun x hx => ?_⟩
  · have h : ∀ x ∈ nestC, Cond.methodLinkNest x.1 x.2.1 x.2.2 "BesideTom" ∈ lw_tbl := by decide +kernel
    exact va_Nw.of rfl (hts _ (h x hx))
  · have h : ∀ x ∈ castC, Cond.castable x "BesideTom$PupilKind" ∈ lw_tbl := by decide +kernel
    exact va_Nw.of rfl (hts _ (h x hx))
theorem ext_start (hts : ∀ w ∈ lw_tbl, w.before #[Value.ref b] s = true) (hgv : (Jvm.Cond.and given_1 narrow_1).before #[Value.ref b] s = true) : ∃ x0 x1 x2 : Nat, ∀ al : Nat → Nat, al 1000 = x0 → al 1001 = x1 → al 1002 = x2 → extX al (fun q => s.heap.size ≤ q) s s.heap := by
  have hs := flat_of_before _ hgv
  have hA : ∀ a : Nat, a < s.heap.size → ¬ (fun q => s.heap.size ≤ q) a := fun a h => Nat.not_le.mpr h
  obtain ⟨x0, hv0, hT0⟩ := va_Tof (args := #[Value.ref b]) (s := s) (tm := .static "BesideTom$Seating" "NEXT" "[I") (ty := .int) (N := 6) (f := fun j => .int (nextT j)) (A := fun q => s.heap.size ≤ q) (by decide) (hs _ (by decide +kernel)) (va_eqt (hs _ (by decide +kernel))) (fun j hj => by
    rcases (show j = 0 ∨ j = 1 ∨ j = 2 ∨ j = 3 ∨ j = 4 ∨ j = 5 by omega) with rfl | rfl | rfl | rfl | rfl | rfl
    all_goals exact va_eqt (hs _ (by decide +kernel))) hA
  obtain ⟨adK, adV, hS, hKv⟩ := vk_Sof (args := #[Value.ref b]) (s := s) (N := 1) (tm := fun _ => .string "BesideTom$Rooms" 107) (len := [16]) (byt := [wordL]) (A := fun q => s.heap.size ≤ q) (fun i hi => by
    rw [show i = 0 by omega]; decide) (fun i hi => hs _ (by decide +kernel)) (fun i hi => hs _ (by decide +kernel)) (fun i hi => hs _ (by decide +kernel)) (fun i hi => by
    rw [show i = 0 by omega]; exact hs _ (by decide +kernel)) (fun i hi j hj => by
    cases (show i = 0 by omega)
    have hj : j < 16 := hj
    rcases (show j = 0 ∨ j = 1 ∨ j = 2 ∨ j = 3 ∨ j = 4 ∨ j = 5 ∨ j = 6 ∨ j = 7 ∨ j = 8 ∨ j = 9 ∨ j = 10 ∨ j = 11 ∨ j = 12 ∨ j = 13 ∨ j = 14 ∨ j = 15 by omega) with rfl | rfl | rfl | rfl | rfl | rfl | rfl | rfl | rfl | rfl | rfl | rfl | rfl | rfl | rfl | rfl
    all_goals exact hs _ (by decide +kernel)) (fun i j hi hj h => absurd (show i = j by omega) h) hA
  refine ⟨x0, adK 0, adV 0, fun al h0 h1 h2 => ?_⟩
  unfold extX
  rw [h0, h1, h2]
  refine ⟨va_Zref (hts (.laysStatic "BesideTom$Seating" "NEXT" "[I") (by decide +kernel)) (hts (.initialized "BesideTom$Seating") (by decide +kernel)) hv0 hA, hT0, vk_R.of (hts (.stringRef "BesideTom$Rooms" 107 "chathushwearcost") (by decide +kernel)) (hKv 0 (by decide)), ⟨fun i hi => ?_, fun i j hi hj _ => by omega⟩, va_Zof (hts (.laysStatic "java/lang/String" "COMPACT_STRINGS" "Z") (by decide +kernel)) (hts (.initialized "java/lang/String") (by decide +kernel)) (va_eqt (hs _ (by decide +kernel))) hA, va_Zqof (hts (.laysStatic "jdk/internal/util/Preconditions" "SIOOBE_FORMATTER" "Ljava/util/function/BiFunction;") (by decide +kernel)) (hts (.initialized "jdk/internal/util/Preconditions") (by decide +kernel)) (hs _ (by decide +kernel)) hA, va_Nw.of rfl (hts _ (by decide +kernel)), va_Nw.of rfl (hts _ (by decide +kernel))⟩
  rw [show i = 0 by omega]
  exact hS.1 0 (by decide)
end ST
