def cSeat (al : Nat → Nat) (b : Nat) (f : Nat → Int32) : va_E := .inr (5, [.ref (al 23), .int (f 1), .int (f 2), .int (f 3), .int (f 4), .int (f 5), .int (f 6), .int (f 7), .int (f 8), .ref (al (b + 1)), .ref (al (b + 2)), .ref (al (b + 3)), .ref (al (b + 4)), .ref (al (b + 5)), .ref (al (b + 6)), .ref (al (b + 7)), .ref (al (b + 10)), .ref (al (b + 13))])
def cRows (al : Nat → Nat) (b : Nat) (f : Nat → Int32) : va_E := .inr (4, [.ref (al (b + 1)), .ref (al (b + 2)), .int (f 2)])
def cInts (cy : Nat → ClassId) (n : Nat) (f : Nat → Int32) : va_E := .inl (cy 0, n, .inl f)
def cRefs (al : Nat → Nat) (c n r : Nat) (cy : Nat → ClassId) : va_E := .inl (cy c, n, .inr (.inr (.inr (.inr (fun j => some (al (r + j)))))))
def rlen (r : Nat) : Nat := if r = 47 ∨ r = 67 ∨ r = 87 then 5 else if r = 50 ∨ r = 70 ∨ r = 90 then 10 else 8
def seats : List Nat := [40, 60, 80]
def rowsI : List Nat := [47, 50, 53, 67, 70, 73, 87, 90, 93]
def txI : List Nat := [3, 4, 5, 6, 7, 8, 9]
def tpI : List Nat := [15, 16, 17, 18, 19, 20]
def kdI : List Nat := [24, 25, 26, 27, 28, 29, 30]
def celX (al : Nat → Nat) (cy : Nat → ClassId) (b : Nat) (f : Nat → Int32) (g : Nat → Int64) : va_E := match b with
  | 0 => .inr (11, [.ref (al 40), .ref (al 60), .ref (al 80), .int (f 3), .ref (al 1), .ref (al 11), .ref (al 13), .ref (al 14), .ref (al 21), .ref (al 22)])
  | 1 => .inr (3, [.ref (al 2), .ref (al 10), .int (f 2), .int (f 3), .int (f 4), .int (f 5), .int (f 6), .int (f 7), .int (f 8), .int (f 9), .int (f 10), .int (f 11), .int (f 12), .int (f 13)])
  | 2 => cRefs al 4 7 3 cy
  | 3 => .inl (cy 1, 100, .inl f)
  | 4 => .inl (cy 1, 100, .inl f)
  | 5 => .inl (cy 1, 100, .inl f)
  | 6 => .inl (cy 1, 100, .inl f)
  | 7 => .inl (cy 1, 100, .inl f)
  | 8 => .inl (cy 1, 100, .inl f)
  | 9 => .inl (cy 1, 100, .inl f)
  | 10 => cInts cy 7 f
  | 11 => .inr (10, [.ref (al 12), .int (f 1), .int (f 2), .int (f 3)])
  | 12 => cInts cy 20 f
  | 13 => cInts cy 6 f
  | 14 => cRefs al 5 6 15 cy
  | 15 => .inl (cy 2, 60, .inr (.inl g))
  | 16 => .inl (cy 2, 60, .inr (.inl g))
  | 17 => .inl (cy 2, 60, .inr (.inl g))
  | 18 => .inl (cy 2, 60, .inr (.inl g))
  | 19 => .inl (cy 2, 60, .inr (.inl g))
  | 20 => .inl (cy 2, 60, .inr (.inl g))
  | 21 => cInts cy 6 f
  | 22 => cInts cy 6 f
  | 23 => cRefs al 6 7 24 cy
  | 24 => .inr (1, [])
  | 25 => .inr (7, [])
  | 26 => .inr (2, [])
  | 27 => .inr (6, [])
  | 28 => .inr (9, [])
  | 29 => .inr (0, [])
  | 30 => .inr (8, [])
  | 40 => cSeat al 40 f
  | 41 => cInts cy 6 f
  | 42 => cInts cy 6 f
  | 43 => cInts cy 6 f
  | 44 => cInts cy 6 f
  | 45 => cInts cy 24 f
  | 46 => cInts cy 36 f
  | 47 => cRows al 47 f
  | 48 => cInts cy 5 f
  | 49 => cInts cy 5 f
  | 50 => cRows al 50 f
  | 51 => cInts cy 10 f
  | 52 => cInts cy 10 f
  | 53 => cRows al 53 f
  | 54 => cInts cy 8 f
  | 55 => cInts cy 8 f
  | 60 => cSeat al 60 f
  | 61 => cInts cy 6 f
  | 62 => cInts cy 6 f
  | 63 => cInts cy 6 f
  | 64 => cInts cy 6 f
  | 65 => cInts cy 24 f
  | 66 => cInts cy 36 f
  | 67 => cRows al 67 f
  | 68 => cInts cy 5 f
  | 69 => cInts cy 5 f
  | 70 => cRows al 70 f
  | 71 => cInts cy 10 f
  | 72 => cInts cy 10 f
  | 73 => cRows al 73 f
  | 74 => cInts cy 8 f
  | 75 => cInts cy 8 f
  | 80 => cSeat al 80 f
  | 81 => cInts cy 6 f
  | 82 => cInts cy 6 f
  | 83 => cInts cy 6 f
  | 84 => cInts cy 6 f
  | 85 => cInts cy 24 f
  | 86 => cInts cy 36 f
  | 87 => cRows al 87 f
  | 88 => cInts cy 5 f
  | 89 => cInts cy 5 f
  | 90 => cRows al 90 f
  | 91 => cInts cy 10 f
  | 92 => cInts cy 10 f
  | 93 => cRows al 93 f
  | 94 => cInts cy 8 f
  | 95 => cInts cy 8 f
  | _ => .inr (0, [])
def idsX : List Nat := [0, 1, 2, 3, 4, 5, 6, 7, 8, 9, 10, 11, 12, 13, 14, 15, 16, 17, 18, 19, 20, 21, 22, 23, 24, 25, 26, 27, 28, 29, 30, 40, 41, 42, 43, 44, 45, 46, 47, 48, 49, 50, 51, 52, 53, 54, 55, 60, 61, 62, 63, 64, 65, 66, 67, 68, 69, 70, 71, 72, 73, 74, 75, 80, 81, 82, 83, 84, 85, 86, 87, 88, 89, 90, 91, 92, 93, 94, 95]
def nextT (j : Nat) : Int32 := match j with
  | 0 => 10
  | 1 => 21
  | 2 => 34
  | 3 => 17
  | 4 => 42
  | _ => 20
def wordL : List Int32 := [99, 104, 97, 116, 104, 117, 115, 104, 119, 101, 97, 114, 99, 111, 115, 116]
def wordT : Nat → Int32 := fun j => wordL.getD j 0
/-- what the class's side needs of the start: the static table of neighbours at cell 1000's address, the text of the words at 1001 (its bytes at 1002), two statics of the JDK's, two links to the outer class's methods -/
def extX (al : Nat → Nat) (A : Nat → Prop) (U : State) (H : Heap) : Prop := va_Z "BesideTom$Seating" "NEXT" "[I" (.ref (al 1000)) A U H ∧ va_T .int (al 1000) 6 (fun j => .int (nextT j)) A U H ∧ vk_R "BesideTom$Rooms" 107 "chathushwearcost" (al 1001) U ∧ vk_S 1 [16] [wordL] (fun _ => al 1001) (fun _ => al 1002) A U H ∧ va_Z "java/lang/String" "COMPACT_STRINGS" "Z" (.int 1) A U H ∧ va_Zq "jdk/internal/util/Preconditions" "SIOOBE_FORMATTER" "Ljava/util/function/BiFunction;" A U H ∧ va_Nw (.methodLinkNest "BesideTom$Seating" 92 ⟨"BesideTom", "bit", "(II)Z"⟩ "BesideTom") U ∧ va_Nw (.methodLinkNest "BesideTom$Seating" 136 ⟨"BesideTom", "cut", "(II)I"⟩ "BesideTom") U
theorem extX_ok : ExtOk extX := fun al A B U V H H1 h hB hW hk => ⟨((h.1.moved hW.alike).kept hk).narrow hB, ((h.2.1.moved hW.alike).kept hk).narrow hB, h.2.2.1.warm hW, ((h.2.2.2.1.moved hW.alike).kept hk).narrow hB, ((h.2.2.2.2.1.moved hW.alike).kept hk).narrow hB, ((h.2.2.2.2.2.1.moved hW.alike).kept hk).narrow hB, h.2.2.2.2.2.2.1.warmM hW, h.2.2.2.2.2.2.2.warmM hW⟩
def sdX : SD := (idsX, celX, extX)
theorem xm_0 : 0 ∈ sdX.1 := by decide +kernel
theorem xc_0 (q : QT) (f : Nat → Int32) (g : Nat → Int64) : sdX.2.1 q.2.2.1 q.2.2.2 0 f g = .inr (11, [.ref (q.2.2.1 40), .ref (q.2.2.1 60), .ref (q.2.2.1 80), .int (f 3), .ref (q.2.2.1 1), .ref (q.2.2.1 11), .ref (q.2.2.1 13), .ref (q.2.2.1 14), .ref (q.2.2.1 21), .ref (q.2.2.1 22)]) := rfl
theorem xm_1 : 1 ∈ sdX.1 := by decide +kernel
theorem xc_1 (q : QT) (f : Nat → Int32) (g : Nat → Int64) : sdX.2.1 q.2.2.1 q.2.2.2 1 f g = .inr (3, [.ref (q.2.2.1 2), .ref (q.2.2.1 10), .int (f 2), .int (f 3), .int (f 4), .int (f 5), .int (f 6), .int (f 7), .int (f 8), .int (f 9), .int (f 10), .int (f 11), .int (f 12), .int (f 13)]) := rfl
theorem xm_2 : 2 ∈ sdX.1 := by decide +kernel
theorem xc_2 (q : QT) (f : Nat → Int32) (g : Nat → Int64) : sdX.2.1 q.2.2.1 q.2.2.2 2 f g = cRefs q.2.2.1 4 7 3 q.2.2.2 := rfl
theorem xm_3 : 3 ∈ sdX.1 := by decide +kernel
theorem xc_3 (q : QT) (f : Nat → Int32) (g : Nat → Int64) : sdX.2.1 q.2.2.1 q.2.2.2 3 f g = .inl (q.2.2.2 1, 100, .inl f) := rfl
theorem xm_4 : 4 ∈ sdX.1 := by decide +kernel
theorem xc_4 (q : QT) (f : Nat → Int32) (g : Nat → Int64) : sdX.2.1 q.2.2.1 q.2.2.2 4 f g = .inl (q.2.2.2 1, 100, .inl f) := rfl
theorem xm_5 : 5 ∈ sdX.1 := by decide +kernel
theorem xc_5 (q : QT) (f : Nat → Int32) (g : Nat → Int64) : sdX.2.1 q.2.2.1 q.2.2.2 5 f g = .inl (q.2.2.2 1, 100, .inl f) := rfl
theorem xm_6 : 6 ∈ sdX.1 := by decide +kernel
theorem xc_6 (q : QT) (f : Nat → Int32) (g : Nat → Int64) : sdX.2.1 q.2.2.1 q.2.2.2 6 f g = .inl (q.2.2.2 1, 100, .inl f) := rfl
theorem xm_7 : 7 ∈ sdX.1 := by decide +kernel
theorem xc_7 (q : QT) (f : Nat → Int32) (g : Nat → Int64) : sdX.2.1 q.2.2.1 q.2.2.2 7 f g = .inl (q.2.2.2 1, 100, .inl f) := rfl
theorem xm_8 : 8 ∈ sdX.1 := by decide +kernel
theorem xc_8 (q : QT) (f : Nat → Int32) (g : Nat → Int64) : sdX.2.1 q.2.2.1 q.2.2.2 8 f g = .inl (q.2.2.2 1, 100, .inl f) := rfl
theorem xm_9 : 9 ∈ sdX.1 := by decide +kernel
theorem xc_9 (q : QT) (f : Nat → Int32) (g : Nat → Int64) : sdX.2.1 q.2.2.1 q.2.2.2 9 f g = .inl (q.2.2.2 1, 100, .inl f) := rfl
theorem xm_10 : 10 ∈ sdX.1 := by decide +kernel
theorem xc_10 (q : QT) (f : Nat → Int32) (g : Nat → Int64) : sdX.2.1 q.2.2.1 q.2.2.2 10 f g = cInts q.2.2.2 7 f := rfl
theorem xm_11 : 11 ∈ sdX.1 := by decide +kernel
theorem xc_11 (q : QT) (f : Nat → Int32) (g : Nat → Int64) : sdX.2.1 q.2.2.1 q.2.2.2 11 f g = .inr (10, [.ref (q.2.2.1 12), .int (f 1), .int (f 2), .int (f 3)]) := rfl
theorem xm_12 : 12 ∈ sdX.1 := by decide +kernel
theorem xc_12 (q : QT) (f : Nat → Int32) (g : Nat → Int64) : sdX.2.1 q.2.2.1 q.2.2.2 12 f g = cInts q.2.2.2 20 f := rfl
theorem xm_13 : 13 ∈ sdX.1 := by decide +kernel
theorem xc_13 (q : QT) (f : Nat → Int32) (g : Nat → Int64) : sdX.2.1 q.2.2.1 q.2.2.2 13 f g = cInts q.2.2.2 6 f := rfl
theorem xm_14 : 14 ∈ sdX.1 := by decide +kernel
theorem xc_14 (q : QT) (f : Nat → Int32) (g : Nat → Int64) : sdX.2.1 q.2.2.1 q.2.2.2 14 f g = cRefs q.2.2.1 5 6 15 q.2.2.2 := rfl
theorem xm_15 : 15 ∈ sdX.1 := by decide +kernel
theorem xc_15 (q : QT) (f : Nat → Int32) (g : Nat → Int64) : sdX.2.1 q.2.2.1 q.2.2.2 15 f g = .inl (q.2.2.2 2, 60, .inr (.inl g)) := rfl
theorem xm_16 : 16 ∈ sdX.1 := by decide +kernel
theorem xc_16 (q : QT) (f : Nat → Int32) (g : Nat → Int64) : sdX.2.1 q.2.2.1 q.2.2.2 16 f g = .inl (q.2.2.2 2, 60, .inr (.inl g)) := rfl
theorem xm_17 : 17 ∈ sdX.1 := by decide +kernel
theorem xc_17 (q : QT) (f : Nat → Int32) (g : Nat → Int64) : sdX.2.1 q.2.2.1 q.2.2.2 17 f g = .inl (q.2.2.2 2, 60, .inr (.inl g)) := rfl
theorem xm_18 : 18 ∈ sdX.1 := by decide +kernel
theorem xc_18 (q : QT) (f : Nat → Int32) (g : Nat → Int64) : sdX.2.1 q.2.2.1 q.2.2.2 18 f g = .inl (q.2.2.2 2, 60, .inr (.inl g)) := rfl
theorem xm_19 : 19 ∈ sdX.1 := by decide +kernel
theorem xc_19 (q : QT) (f : Nat → Int32) (g : Nat → Int64) : sdX.2.1 q.2.2.1 q.2.2.2 19 f g = .inl (q.2.2.2 2, 60, .inr (.inl g)) := rfl
theorem xm_20 : 20 ∈ sdX.1 := by decide +kernel
theorem xc_20 (q : QT) (f : Nat → Int32) (g : Nat → Int64) : sdX.2.1 q.2.2.1 q.2.2.2 20 f g = .inl (q.2.2.2 2, 60, .inr (.inl g)) := rfl
theorem xm_21 : 21 ∈ sdX.1 := by decide +kernel
theorem xc_21 (q : QT) (f : Nat → Int32) (g : Nat → Int64) : sdX.2.1 q.2.2.1 q.2.2.2 21 f g = cInts q.2.2.2 6 f := rfl
theorem xm_22 : 22 ∈ sdX.1 := by decide +kernel
theorem xc_22 (q : QT) (f : Nat → Int32) (g : Nat → Int64) : sdX.2.1 q.2.2.1 q.2.2.2 22 f g = cInts q.2.2.2 6 f := rfl
theorem xm_23 : 23 ∈ sdX.1 := by decide +kernel
theorem xc_23 (q : QT) (f : Nat → Int32) (g : Nat → Int64) : sdX.2.1 q.2.2.1 q.2.2.2 23 f g = cRefs q.2.2.1 6 7 24 q.2.2.2 := rfl
theorem xm_24 : 24 ∈ sdX.1 := by decide +kernel
theorem xc_24 (q : QT) (f : Nat → Int32) (g : Nat → Int64) : sdX.2.1 q.2.2.1 q.2.2.2 24 f g = .inr (1, []) := rfl
theorem xm_25 : 25 ∈ sdX.1 := by decide +kernel
theorem xc_25 (q : QT) (f : Nat → Int32) (g : Nat → Int64) : sdX.2.1 q.2.2.1 q.2.2.2 25 f g = .inr (7, []) := rfl
theorem xm_26 : 26 ∈ sdX.1 := by decide +kernel
theorem xc_26 (q : QT) (f : Nat → Int32) (g : Nat → Int64) : sdX.2.1 q.2.2.1 q.2.2.2 26 f g = .inr (2, []) := rfl
theorem xm_27 : 27 ∈ sdX.1 := by decide +kernel
theorem xc_27 (q : QT) (f : Nat → Int32) (g : Nat → Int64) : sdX.2.1 q.2.2.1 q.2.2.2 27 f g = .inr (6, []) := rfl
theorem xm_28 : 28 ∈ sdX.1 := by decide +kernel
theorem xc_28 (q : QT) (f : Nat → Int32) (g : Nat → Int64) : sdX.2.1 q.2.2.1 q.2.2.2 28 f g = .inr (9, []) := rfl
theorem xm_29 : 29 ∈ sdX.1 := by decide +kernel
theorem xc_29 (q : QT) (f : Nat → Int32) (g : Nat → Int64) : sdX.2.1 q.2.2.1 q.2.2.2 29 f g = .inr (0, []) := rfl
theorem xm_30 : 30 ∈ sdX.1 := by decide +kernel
theorem xc_30 (q : QT) (f : Nat → Int32) (g : Nat → Int64) : sdX.2.1 q.2.2.1 q.2.2.2 30 f g = .inr (8, []) := rfl
theorem xm_40 : 40 ∈ sdX.1 := by decide +kernel
theorem xc_40 (q : QT) (f : Nat → Int32) (g : Nat → Int64) : sdX.2.1 q.2.2.1 q.2.2.2 40 f g = cSeat q.2.2.1 40 f := rfl
theorem xm_41 : 41 ∈ sdX.1 := by decide +kernel
theorem xc_41 (q : QT) (f : Nat → Int32) (g : Nat → Int64) : sdX.2.1 q.2.2.1 q.2.2.2 41 f g = cInts q.2.2.2 6 f := rfl
theorem xm_42 : 42 ∈ sdX.1 := by decide +kernel
theorem xc_42 (q : QT) (f : Nat → Int32) (g : Nat → Int64) : sdX.2.1 q.2.2.1 q.2.2.2 42 f g = cInts q.2.2.2 6 f := rfl
theorem xm_43 : 43 ∈ sdX.1 := by decide +kernel
theorem xc_43 (q : QT) (f : Nat → Int32) (g : Nat → Int64) : sdX.2.1 q.2.2.1 q.2.2.2 43 f g = cInts q.2.2.2 6 f := rfl
theorem xm_44 : 44 ∈ sdX.1 := by decide +kernel
theorem xc_44 (q : QT) (f : Nat → Int32) (g : Nat → Int64) : sdX.2.1 q.2.2.1 q.2.2.2 44 f g = cInts q.2.2.2 6 f := rfl
theorem xm_45 : 45 ∈ sdX.1 := by decide +kernel
theorem xc_45 (q : QT) (f : Nat → Int32) (g : Nat → Int64) : sdX.2.1 q.2.2.1 q.2.2.2 45 f g = cInts q.2.2.2 24 f := rfl
theorem xm_46 : 46 ∈ sdX.1 := by decide +kernel
theorem xc_46 (q : QT) (f : Nat → Int32) (g : Nat → Int64) : sdX.2.1 q.2.2.1 q.2.2.2 46 f g = cInts q.2.2.2 36 f := rfl
theorem xm_47 : 47 ∈ sdX.1 := by decide +kernel
theorem xc_47 (q : QT) (f : Nat → Int32) (g : Nat → Int64) : sdX.2.1 q.2.2.1 q.2.2.2 47 f g = cRows q.2.2.1 47 f := rfl
theorem xm_48 : 48 ∈ sdX.1 := by decide +kernel
theorem xc_48 (q : QT) (f : Nat → Int32) (g : Nat → Int64) : sdX.2.1 q.2.2.1 q.2.2.2 48 f g = cInts q.2.2.2 5 f := rfl
theorem xm_49 : 49 ∈ sdX.1 := by decide +kernel
theorem xc_49 (q : QT) (f : Nat → Int32) (g : Nat → Int64) : sdX.2.1 q.2.2.1 q.2.2.2 49 f g = cInts q.2.2.2 5 f := rfl
theorem xm_50 : 50 ∈ sdX.1 := by decide +kernel
theorem xc_50 (q : QT) (f : Nat → Int32) (g : Nat → Int64) : sdX.2.1 q.2.2.1 q.2.2.2 50 f g = cRows q.2.2.1 50 f := rfl
theorem xm_51 : 51 ∈ sdX.1 := by decide +kernel
theorem xc_51 (q : QT) (f : Nat → Int32) (g : Nat → Int64) : sdX.2.1 q.2.2.1 q.2.2.2 51 f g = cInts q.2.2.2 10 f := rfl
theorem xm_52 : 52 ∈ sdX.1 := by decide +kernel
theorem xc_52 (q : QT) (f : Nat → Int32) (g : Nat → Int64) : sdX.2.1 q.2.2.1 q.2.2.2 52 f g = cInts q.2.2.2 10 f := rfl
theorem xm_53 : 53 ∈ sdX.1 := by decide +kernel
theorem xc_53 (q : QT) (f : Nat → Int32) (g : Nat → Int64) : sdX.2.1 q.2.2.1 q.2.2.2 53 f g = cRows q.2.2.1 53 f := rfl
theorem xm_54 : 54 ∈ sdX.1 := by decide +kernel
theorem xc_54 (q : QT) (f : Nat → Int32) (g : Nat → Int64) : sdX.2.1 q.2.2.1 q.2.2.2 54 f g = cInts q.2.2.2 8 f := rfl
theorem xm_55 : 55 ∈ sdX.1 := by decide +kernel
theorem xc_55 (q : QT) (f : Nat → Int32) (g : Nat → Int64) : sdX.2.1 q.2.2.1 q.2.2.2 55 f g = cInts q.2.2.2 8 f := rfl
theorem xm_60 : 60 ∈ sdX.1 := by decide +kernel
theorem xc_60 (q : QT) (f : Nat → Int32) (g : Nat → Int64) : sdX.2.1 q.2.2.1 q.2.2.2 60 f g = cSeat q.2.2.1 60 f := rfl
theorem xm_61 : 61 ∈ sdX.1 := by decide +kernel
theorem xc_61 (q : QT) (f : Nat → Int32) (g : Nat → Int64) : sdX.2.1 q.2.2.1 q.2.2.2 61 f g = cInts q.2.2.2 6 f := rfl
theorem xm_62 : 62 ∈ sdX.1 := by decide +kernel
theorem xc_62 (q : QT) (f : Nat → Int32) (g : Nat → Int64) : sdX.2.1 q.2.2.1 q.2.2.2 62 f g = cInts q.2.2.2 6 f := rfl
theorem xm_63 : 63 ∈ sdX.1 := by decide +kernel
theorem xc_63 (q : QT) (f : Nat → Int32) (g : Nat → Int64) : sdX.2.1 q.2.2.1 q.2.2.2 63 f g = cInts q.2.2.2 6 f := rfl
theorem xm_64 : 64 ∈ sdX.1 := by decide +kernel
theorem xc_64 (q : QT) (f : Nat → Int32) (g : Nat → Int64) : sdX.2.1 q.2.2.1 q.2.2.2 64 f g = cInts q.2.2.2 6 f := rfl
theorem xm_65 : 65 ∈ sdX.1 := by decide +kernel
theorem xc_65 (q : QT) (f : Nat → Int32) (g : Nat → Int64) : sdX.2.1 q.2.2.1 q.2.2.2 65 f g = cInts q.2.2.2 24 f := rfl
theorem xm_66 : 66 ∈ sdX.1 := by decide +kernel
theorem xc_66 (q : QT) (f : Nat → Int32) (g : Nat → Int64) : sdX.2.1 q.2.2.1 q.2.2.2 66 f g = cInts q.2.2.2 36 f := rfl
theorem xm_67 : 67 ∈ sdX.1 := by decide +kernel
theorem xc_67 (q : QT) (f : Nat → Int32) (g : Nat → Int64) : sdX.2.1 q.2.2.1 q.2.2.2 67 f g = cRows q.2.2.1 67 f := rfl
theorem xm_68 : 68 ∈ sdX.1 := by decide +kernel
theorem xc_68 (q : QT) (f : Nat → Int32) (g : Nat → Int64) : sdX.2.1 q.2.2.1 q.2.2.2 68 f g = cInts q.2.2.2 5 f := rfl
theorem xm_69 : 69 ∈ sdX.1 := by decide +kernel
theorem xc_69 (q : QT) (f : Nat → Int32) (g : Nat → Int64) : sdX.2.1 q.2.2.1 q.2.2.2 69 f g = cInts q.2.2.2 5 f := rfl
theorem xm_70 : 70 ∈ sdX.1 := by decide +kernel
theorem xc_70 (q : QT) (f : Nat → Int32) (g : Nat → Int64) : sdX.2.1 q.2.2.1 q.2.2.2 70 f g = cRows q.2.2.1 70 f := rfl
theorem xm_71 : 71 ∈ sdX.1 := by decide +kernel
theorem xc_71 (q : QT) (f : Nat → Int32) (g : Nat → Int64) : sdX.2.1 q.2.2.1 q.2.2.2 71 f g = cInts q.2.2.2 10 f := rfl
theorem xm_72 : 72 ∈ sdX.1 := by decide +kernel
theorem xc_72 (q : QT) (f : Nat → Int32) (g : Nat → Int64) : sdX.2.1 q.2.2.1 q.2.2.2 72 f g = cInts q.2.2.2 10 f := rfl
theorem xm_73 : 73 ∈ sdX.1 := by decide +kernel
theorem xc_73 (q : QT) (f : Nat → Int32) (g : Nat → Int64) : sdX.2.1 q.2.2.1 q.2.2.2 73 f g = cRows q.2.2.1 73 f := rfl
theorem xm_74 : 74 ∈ sdX.1 := by decide +kernel
theorem xc_74 (q : QT) (f : Nat → Int32) (g : Nat → Int64) : sdX.2.1 q.2.2.1 q.2.2.2 74 f g = cInts q.2.2.2 8 f := rfl
theorem xm_75 : 75 ∈ sdX.1 := by decide +kernel
theorem xc_75 (q : QT) (f : Nat → Int32) (g : Nat → Int64) : sdX.2.1 q.2.2.1 q.2.2.2 75 f g = cInts q.2.2.2 8 f := rfl
theorem xm_80 : 80 ∈ sdX.1 := by decide +kernel
theorem xc_80 (q : QT) (f : Nat → Int32) (g : Nat → Int64) : sdX.2.1 q.2.2.1 q.2.2.2 80 f g = cSeat q.2.2.1 80 f := rfl
theorem xm_81 : 81 ∈ sdX.1 := by decide +kernel
theorem xc_81 (q : QT) (f : Nat → Int32) (g : Nat → Int64) : sdX.2.1 q.2.2.1 q.2.2.2 81 f g = cInts q.2.2.2 6 f := rfl
theorem xm_82 : 82 ∈ sdX.1 := by decide +kernel
theorem xc_82 (q : QT) (f : Nat → Int32) (g : Nat → Int64) : sdX.2.1 q.2.2.1 q.2.2.2 82 f g = cInts q.2.2.2 6 f := rfl
theorem xm_83 : 83 ∈ sdX.1 := by decide +kernel
theorem xc_83 (q : QT) (f : Nat → Int32) (g : Nat → Int64) : sdX.2.1 q.2.2.1 q.2.2.2 83 f g = cInts q.2.2.2 6 f := rfl
theorem xm_84 : 84 ∈ sdX.1 := by decide +kernel
theorem xc_84 (q : QT) (f : Nat → Int32) (g : Nat → Int64) : sdX.2.1 q.2.2.1 q.2.2.2 84 f g = cInts q.2.2.2 6 f := rfl
theorem xm_85 : 85 ∈ sdX.1 := by decide +kernel
theorem xc_85 (q : QT) (f : Nat → Int32) (g : Nat → Int64) : sdX.2.1 q.2.2.1 q.2.2.2 85 f g = cInts q.2.2.2 24 f := rfl
theorem xm_86 : 86 ∈ sdX.1 := by decide +kernel
theorem xc_86 (q : QT) (f : Nat → Int32) (g : Nat → Int64) : sdX.2.1 q.2.2.1 q.2.2.2 86 f g = cInts q.2.2.2 36 f := rfl
theorem xm_87 : 87 ∈ sdX.1 := by decide +kernel
theorem xc_87 (q : QT) (f : Nat → Int32) (g : Nat → Int64) : sdX.2.1 q.2.2.1 q.2.2.2 87 f g = cRows q.2.2.1 87 f := rfl
theorem xm_88 : 88 ∈ sdX.1 := by decide +kernel
theorem xc_88 (q : QT) (f : Nat → Int32) (g : Nat → Int64) : sdX.2.1 q.2.2.1 q.2.2.2 88 f g = cInts q.2.2.2 5 f := rfl
theorem xm_89 : 89 ∈ sdX.1 := by decide +kernel
theorem xc_89 (q : QT) (f : Nat → Int32) (g : Nat → Int64) : sdX.2.1 q.2.2.1 q.2.2.2 89 f g = cInts q.2.2.2 5 f := rfl
theorem xm_90 : 90 ∈ sdX.1 := by decide +kernel
theorem xc_90 (q : QT) (f : Nat → Int32) (g : Nat → Int64) : sdX.2.1 q.2.2.1 q.2.2.2 90 f g = cRows q.2.2.1 90 f := rfl
theorem xm_91 : 91 ∈ sdX.1 := by decide +kernel
theorem xc_91 (q : QT) (f : Nat → Int32) (g : Nat → Int64) : sdX.2.1 q.2.2.1 q.2.2.2 91 f g = cInts q.2.2.2 10 f := rfl
theorem xm_92 : 92 ∈ sdX.1 := by decide +kernel
theorem xc_92 (q : QT) (f : Nat → Int32) (g : Nat → Int64) : sdX.2.1 q.2.2.1 q.2.2.2 92 f g = cInts q.2.2.2 10 f := rfl
theorem xm_93 : 93 ∈ sdX.1 := by decide +kernel
theorem xc_93 (q : QT) (f : Nat → Int32) (g : Nat → Int64) : sdX.2.1 q.2.2.1 q.2.2.2 93 f g = cRows q.2.2.1 93 f := rfl
theorem xm_94 : 94 ∈ sdX.1 := by decide +kernel
theorem xc_94 (q : QT) (f : Nat → Int32) (g : Nat → Int64) : sdX.2.1 q.2.2.1 q.2.2.2 94 f g = cInts q.2.2.2 8 f := rfl
theorem xm_95 : 95 ∈ sdX.1 := by decide +kernel
theorem xc_95 (q : QT) (f : Nat → Int32) (g : Nat → Int64) : sdX.2.1 q.2.2.1 q.2.2.2 95 f g = cInts q.2.2.2 8 f := rfl
theorem rz_seat {P : Nat → Prop} (a : P 40) (b : P 60) (c : P 80) {i : Nat} (h : i ∈ seats) : P i := by
  rcases List.mem_cons.mp h with rfl | h
  · exact a
  · rcases List.mem_cons.mp h with rfl | h
    · exact b
    · rw [List.mem_singleton.mp h]; exact c
theorem se_0 {b : Nat} (h : b ∈ seats) : b ∈ sdX.1 := rz_seat (P := fun b => b ∈ sdX.1) (by decide +kernel) (by decide +kernel) (by decide +kernel) h
theorem sc_0 {b : Nat} (h : b ∈ seats) (q : QT) (f : Nat → Int32) (g : Nat → Int64) : sdX.2.1 q.2.2.1 q.2.2.2 b f g = .inr (5, [.ref (q.2.2.1 23), .int (f 1), .int (f 2), .int (f 3), .int (f 4), .int (f 5), .int (f 6), .int (f 7), .int (f 8), .ref (q.2.2.1 (b + 1)), .ref (q.2.2.1 (b + 2)), .ref (q.2.2.1 (b + 3)), .ref (q.2.2.1 (b + 4)), .ref (q.2.2.1 (b + 5)), .ref (q.2.2.1 (b + 6)), .ref (q.2.2.1 (b + 7)), .ref (q.2.2.1 (b + 10)), .ref (q.2.2.1 (b + 13))]) := rz_seat (P := fun b => sdX.2.1 q.2.2.1 q.2.2.2 b f g = cSeat q.2.2.1 b f) rfl rfl rfl h
theorem se_1 {b : Nat} (h : b ∈ seats) : b + 1 ∈ sdX.1 := rz_seat (P := fun b => b + 1 ∈ sdX.1) (by decide +kernel) (by decide +kernel) (by decide +kernel) h
theorem sc_1 {b : Nat} (h : b ∈ seats) (q : QT) (f : Nat → Int32) (g : Nat → Int64) : sdX.2.1 q.2.2.1 q.2.2.2 (b + 1) f g = .inl (q.2.2.2 0, 6, .inl f) := rz_seat (P := fun b => sdX.2.1 q.2.2.1 q.2.2.2 (b + 1) f g = .inl (q.2.2.2 0, 6, .inl f)) rfl rfl rfl h
theorem se_2 {b : Nat} (h : b ∈ seats) : b + 2 ∈ sdX.1 := rz_seat (P := fun b => b + 2 ∈ sdX.1) (by decide +kernel) (by decide +kernel) (by decide +kernel) h
theorem sc_2 {b : Nat} (h : b ∈ seats) (q : QT) (f : Nat → Int32) (g : Nat → Int64) : sdX.2.1 q.2.2.1 q.2.2.2 (b + 2) f g = .inl (q.2.2.2 0, 6, .inl f) := rz_seat (P := fun b => sdX.2.1 q.2.2.1 q.2.2.2 (b + 2) f g = .inl (q.2.2.2 0, 6, .inl f)) rfl rfl rfl h
theorem se_3 {b : Nat} (h : b ∈ seats) : b + 3 ∈ sdX.1 := rz_seat (P := fun b => b + 3 ∈ sdX.1) (by decide +kernel) (by decide +kernel) (by decide +kernel) h
theorem sc_3 {b : Nat} (h : b ∈ seats) (q : QT) (f : Nat → Int32) (g : Nat → Int64) : sdX.2.1 q.2.2.1 q.2.2.2 (b + 3) f g = .inl (q.2.2.2 0, 6, .inl f) := rz_seat (P := fun b => sdX.2.1 q.2.2.1 q.2.2.2 (b + 3) f g = .inl (q.2.2.2 0, 6, .inl f)) rfl rfl rfl h
theorem se_4 {b : Nat} (h : b ∈ seats) : b + 4 ∈ sdX.1 := rz_seat (P := fun b => b + 4 ∈ sdX.1) (by decide +kernel) (by decide +kernel) (by decide +kernel) h
theorem sc_4 {b : Nat} (h : b ∈ seats) (q : QT) (f : Nat → Int32) (g : Nat → Int64) : sdX.2.1 q.2.2.1 q.2.2.2 (b + 4) f g = .inl (q.2.2.2 0, 6, .inl f) := rz_seat (P := fun b => sdX.2.1 q.2.2.1 q.2.2.2 (b + 4) f g = .inl (q.2.2.2 0, 6, .inl f)) rfl rfl rfl h
theorem se_5 {b : Nat} (h : b ∈ seats) : b + 5 ∈ sdX.1 := rz_seat (P := fun b => b + 5 ∈ sdX.1) (by decide +kernel) (by decide +kernel) (by decide +kernel) h
theorem sc_5 {b : Nat} (h : b ∈ seats) (q : QT) (f : Nat → Int32) (g : Nat → Int64) : sdX.2.1 q.2.2.1 q.2.2.2 (b + 5) f g = .inl (q.2.2.2 0, 24, .inl f) := rz_seat (P := fun b => sdX.2.1 q.2.2.1 q.2.2.2 (b + 5) f g = .inl (q.2.2.2 0, 24, .inl f)) rfl rfl rfl h
theorem se_6 {b : Nat} (h : b ∈ seats) : b + 6 ∈ sdX.1 := rz_seat (P := fun b => b + 6 ∈ sdX.1) (by decide +kernel) (by decide +kernel) (by decide +kernel) h
theorem sc_6 {b : Nat} (h : b ∈ seats) (q : QT) (f : Nat → Int32) (g : Nat → Int64) : sdX.2.1 q.2.2.1 q.2.2.2 (b + 6) f g = .inl (q.2.2.2 0, 36, .inl f) := rz_seat (P := fun b => sdX.2.1 q.2.2.1 q.2.2.2 (b + 6) f g = .inl (q.2.2.2 0, 36, .inl f)) rfl rfl rfl h
theorem sr_7 {b : Nat} (h : b ∈ seats) : b + 7 ∈ rowsI := rz_seat (P := fun b => b + 7 ∈ rowsI) (by decide +kernel) (by decide +kernel) (by decide +kernel) h
theorem sr_10 {b : Nat} (h : b ∈ seats) : b + 10 ∈ rowsI := rz_seat (P := fun b => b + 10 ∈ rowsI) (by decide +kernel) (by decide +kernel) (by decide +kernel) h
theorem sr_13 {b : Nat} (h : b ∈ seats) : b + 13 ∈ rowsI := rz_seat (P := fun b => b + 13 ∈ rowsI) (by decide +kernel) (by decide +kernel) (by decide +kernel) h
theorem rz_rows {P : Nat → Prop} (a0 : P 47) (a1 : P 50) (a2 : P 53) (a3 : P 67) (a4 : P 70) (a5 : P 73) (a6 : P 87) (a7 : P 90) (a8 : P 93) {i : Nat} (h : i ∈ rowsI) : P i := by
  rcases List.mem_cons.mp h with rfl | h
  · exact a0
  · skip
    rcases List.mem_cons.mp h with rfl | h
    · exact a1
    · skip
      rcases List.mem_cons.mp h with rfl | h
      · exact a2
      · skip
        rcases List.mem_cons.mp h with rfl | h
        · exact a3
        · skip
          rcases List.mem_cons.mp h with rfl | h
          · exact a4
          · skip
            rcases List.mem_cons.mp h with rfl | h
            · exact a5
            · skip
              rcases List.mem_cons.mp h with rfl | h
              · exact a6
              · skip
                rcases List.mem_cons.mp h with rfl | h
                · exact a7
                · skip
                  rw [List.mem_singleton.mp h]; exact a8
theorem rz_tx {P : Nat → Prop} (a0 : P 3) (a1 : P 4) (a2 : P 5) (a3 : P 6) (a4 : P 7) (a5 : P 8) (a6 : P 9) {i : Nat} (h : i ∈ txI) : P i := by
  rcases List.mem_cons.mp h with rfl | h
  · exact a0
  · skip
    rcases List.mem_cons.mp h with rfl | h
    · exact a1
    · skip
      rcases List.mem_cons.mp h with rfl | h
      · exact a2
      · skip
        rcases List.mem_cons.mp h with rfl | h
        · exact a3
        · skip
          rcases List.mem_cons.mp h with rfl | h
          · exact a4
          · skip
            rcases List.mem_cons.mp h with rfl | h
            · exact a5
            · skip
              rw [List.mem_singleton.mp h]; exact a6
theorem rz_tp {P : Nat → Prop} (a0 : P 15) (a1 : P 16) (a2 : P 17) (a3 : P 18) (a4 : P 19) (a5 : P 20) {i : Nat} (h : i ∈ tpI) : P i := by
  rcases List.mem_cons.mp h with rfl | h
  · exact a0
  · skip
    rcases List.mem_cons.mp h with rfl | h
    · exact a1
    · skip
      rcases List.mem_cons.mp h with rfl | h
      · exact a2
      · skip
        rcases List.mem_cons.mp h with rfl | h
        · exact a3
        · skip
          rcases List.mem_cons.mp h with rfl | h
          · exact a4
          · skip
            rw [List.mem_singleton.mp h]; exact a5
theorem rz_kd {P : Nat → Prop} (a0 : P 24) (a1 : P 25) (a2 : P 26) (a3 : P 27) (a4 : P 28) (a5 : P 29) (a6 : P 30) {i : Nat} (h : i ∈ kdI) : P i := by
  rcases List.mem_cons.mp h with rfl | h
  · exact a0
  · skip
    rcases List.mem_cons.mp h with rfl | h
    · exact a1
    · skip
      rcases List.mem_cons.mp h with rfl | h
      · exact a2
      · skip
        rcases List.mem_cons.mp h with rfl | h
        · exact a3
        · skip
          rcases List.mem_cons.mp h with rfl | h
          · exact a4
          · skip
            rcases List.mem_cons.mp h with rfl | h
            · exact a5
            · skip
              rw [List.mem_singleton.mp h]; exact a6
theorem re_0 {b : Nat} (h : b ∈ rowsI) : b ∈ sdX.1 := rz_rows (P := fun b => b ∈ sdX.1) (by decide +kernel) (by decide +kernel) (by decide +kernel) (by decide +kernel) (by decide +kernel) (by decide +kernel) (by decide +kernel) (by decide +kernel) (by decide +kernel) h
theorem re_1 {b : Nat} (h : b ∈ rowsI) : b + 1 ∈ sdX.1 := rz_rows (P := fun b => b + 1 ∈ sdX.1) (by decide +kernel) (by decide +kernel) (by decide +kernel) (by decide +kernel) (by decide +kernel) (by decide +kernel) (by decide +kernel) (by decide +kernel) (by decide +kernel) h
theorem re_2 {b : Nat} (h : b ∈ rowsI) : b + 2 ∈ sdX.1 := rz_rows (P := fun b => b + 2 ∈ sdX.1) (by decide +kernel) (by decide +kernel) (by decide +kernel) (by decide +kernel) (by decide +kernel) (by decide +kernel) (by decide +kernel) (by decide +kernel) (by decide +kernel) h
theorem rc_0 {b : Nat} (h : b ∈ rowsI) (q : QT) (f : Nat → Int32) (g : Nat → Int64) : sdX.2.1 q.2.2.1 q.2.2.2 b f g = .inr (4, [.ref (q.2.2.1 (b + 1)), .ref (q.2.2.1 (b + 2)), .int (f 2)]) := rz_rows (P := fun b => sdX.2.1 q.2.2.1 q.2.2.2 b f g = cRows q.2.2.1 b f) rfl rfl rfl rfl rfl rfl rfl rfl rfl h
theorem rc_1 {b : Nat} (h : b ∈ rowsI) (q : QT) (f : Nat → Int32) (g : Nat → Int64) : sdX.2.1 q.2.2.1 q.2.2.2 (b + 1) f g = .inl (q.2.2.2 0, rlen b, .inl f) := rz_rows (P := fun b => sdX.2.1 q.2.2.1 q.2.2.2 (b + 1) f g = .inl (q.2.2.2 0, rlen b, .inl f)) rfl rfl rfl rfl rfl rfl rfl rfl rfl h
theorem rc_2 {b : Nat} (h : b ∈ rowsI) (q : QT) (f : Nat → Int32) (g : Nat → Int64) : sdX.2.1 q.2.2.1 q.2.2.2 (b + 2) f g = .inl (q.2.2.2 0, rlen b, .inl f) := rz_rows (P := fun b => sdX.2.1 q.2.2.1 q.2.2.2 (b + 2) f g = .inl (q.2.2.2 0, rlen b, .inl f)) rfl rfl rfl rfl rfl rfl rfl rfl rfl h
theorem te_0 {b : Nat} (h : b ∈ txI) : b ∈ sdX.1 := rz_tx (P := fun b => b ∈ sdX.1) (by decide +kernel) (by decide +kernel) (by decide +kernel) (by decide +kernel) (by decide +kernel) (by decide +kernel) (by decide +kernel) h
theorem tc_0 {b : Nat} (h : b ∈ txI) (q : QT) (f : Nat → Int32) (g : Nat → Int64) : sdX.2.1 q.2.2.1 q.2.2.2 b f g = .inl (q.2.2.2 1, 100, .inl f) := rz_tx (P := fun b => sdX.2.1 q.2.2.1 q.2.2.2 b f g = .inl (q.2.2.2 1, 100, .inl f)) rfl rfl rfl rfl rfl rfl rfl h
theorem pe_0 {b : Nat} (h : b ∈ tpI) : b ∈ sdX.1 := rz_tp (P := fun b => b ∈ sdX.1) (by decide +kernel) (by decide +kernel) (by decide +kernel) (by decide +kernel) (by decide +kernel) (by decide +kernel) h
theorem pc_0 {b : Nat} (h : b ∈ tpI) (q : QT) (f : Nat → Int32) (g : Nat → Int64) : sdX.2.1 q.2.2.1 q.2.2.2 b f g = .inl (q.2.2.2 2, 60, .inr (.inl g)) := rz_tp (P := fun b => sdX.2.1 q.2.2.1 q.2.2.2 b f g = .inl (q.2.2.2 2, 60, .inr (.inl g))) rfl rfl rfl rfl rfl rfl h
theorem ke_0 {b : Nat} (h : b ∈ kdI) : b ∈ sdX.1 := rz_kd (P := fun b => b ∈ sdX.1) (by decide +kernel) (by decide +kernel) (by decide +kernel) (by decide +kernel) (by decide +kernel) (by decide +kernel) (by decide +kernel) h
theorem kc_0 {b : Nat} (h : b ∈ kdI) (q : QT) (f : Nat → Int32) (g : Nat → Int64) : ∃ (ci : Nat) (Cn : String) (T : u_T) (N : Nat), sdX.2.1 q.2.2.1 q.2.2.2 b f g = .inr (ci, []) ∧ vwCl[ci]? = some (Cn, T, N) := rz_kd (P := fun b => ∃ (ci : Nat) (Cn : String) (T : u_T) (N : Nat), sdX.2.1 q.2.2.1 q.2.2.2 b f g = .inr (ci, []) ∧ vwCl[ci]? = some (Cn, T, N)) ⟨_, _, _, _, rfl, rfl⟩ ⟨_, _, _, _, rfl, rfl⟩ ⟨_, _, _, _, rfl, rfl⟩ ⟨_, _, _, _, rfl, rfl⟩ ⟨_, _, _, _, rfl, rfl⟩ ⟨_, _, _, _, rfl, rfl⟩ ⟨_, _, _, _, rfl, rfl⟩ h
theorem tx_in {j : Int32} {a : Nat} (h : rdR 3 7 j = some a) : a ∈ txI := by
  obtain ⟨i, hi, rfl, -⟩ := rdR_in h
  have key : ∀ i, i < 7 → 3 + i ∈ txI := by decide
  exact key i hi
theorem tp_in {j : Int32} {a : Nat} (h : rdR 15 6 j = some a) : a ∈ tpI := by
  obtain ⟨i, hi, rfl, -⟩ := rdR_in h
  have key : ∀ i, i < 6 → 15 + i ∈ tpI := by decide
  exact key i hi
theorem kd_in {j : Int32} {a : Nat} (h : rdR 24 7 j = some a) : a ∈ kdI := by
  obtain ⟨i, hi, rfl, -⟩ := rdR_in h
  have key : ∀ i, i < 7 → 24 + i ∈ kdI := by decide
  exact key i hi
def celM (al : Nat → Nat) (cy : Nat → ClassId) (b : Nat) (f : Nat → Int32) (g : Nat → Int64) : va_E := match b with
  | 0 => .inr (12, [.int (f 0), .int (f 1), .int (f 2), .int (f 3), .ref (al 4), .ref (al 5), .ref (al 6), .ref (al 7), .ref (al 8), .int (f 9), .int (f 10), .int (f 11), .int (f 12), .int (f 13), .ref (al 14), .ref (al 15), .ref (al 16), .ref (al 17), .ref (al 18), .ref (al 19), .ref (al 20), .ref (al 21), .int (f 22), .int (f 23), .int (f 24), .ref (al 25), .ref (al 26), .int (f 27), .int (f 28), .int (f 29), .int (f 30), .ref (al 31), .ref (al 32), .ref (al 33), .int (f 34), .ref (al 35), .ref (al 36), .int (f 37), .int (f 38), .ref (al 39), .ref (al 40), .ref (al 41), .ref (al 42), .int (f 43), .int (f 44), .int (f 45), .int (f 46), .int (f 47), .int (f 48), .int (f 49), .int (f 50), .int (f 51), .ref (al 52), .ref (al 53), .ref (al 54), .ref (al 55), .ref (al 56), .ref (al 57), .ref (al 58), .ref (al 59), .ref (al 60), .ref (al 61), .ref (al 62), .int (f 63), .ref (al 64), .ref (al 65), .ref (al 66), .ref (al 67), .ref (al 68)])
  | 4 => cInts cy 6 f
  | 5 => cInts cy 6 f
  | 6 => cInts cy 6 f
  | 7 => cInts cy 6 f
  | 8 => cInts cy 24 f
  | 14 => cInts cy 100 f
  | 15 => cInts cy 6 f
  | 16 => cInts cy 60 f
  | 17 => cInts cy 60 f
  | 18 => cInts cy 60 f
  | 19 => cInts cy 60 f
  | 20 => cInts cy 600 f
  | 21 => cInts cy 101 f
  | 25 => cInts cy 16 f
  | 26 => .inl (cy 3, 100, .inl f)
  | 31 => cInts cy 6 f
  | 32 => cInts cy 6 f
  | 33 => cInts cy 6 f
  | 35 => cInts cy 5 f
  | 36 => cInts cy 5 f
  | 39 => cInts cy 10 f
  | 40 => cInts cy 10 f
  | 41 => cInts cy 8 f
  | 42 => cInts cy 8 f
  | 52 => cInts cy 6 f
  | 53 => cInts cy 6 f
  | 54 => cInts cy 6 f
  | 55 => cInts cy 6 f
  | 56 => cInts cy 24 f
  | 57 => cInts cy 5 f
  | 58 => cInts cy 5 f
  | 59 => cInts cy 10 f
  | 60 => cInts cy 10 f
  | 61 => cInts cy 8 f
  | 62 => cInts cy 8 f
  | 64 => cInts cy 20 f
  | 65 => cInts cy 6 f
  | 66 => cInts cy 6 f
  | 67 => .inl (cy 2, 360, .inr (.inl g))
  | 68 => .inl (cy 2, 60, .inr (.inl g))
  | _ => .inr (0, [])
def idsM : List Nat := [0, 4, 5, 6, 7, 8, 14, 15, 16, 17, 18, 19, 20, 21, 25, 26, 31, 32, 33, 35, 36, 39, 40, 41, 42, 52, 53, 54, 55, 56, 57, 58, 59, 60, 61, 62, 64, 65, 66, 67, 68]
def sdM : SD := (idsM, celM, fun _ _ _ _ => True)
theorem gk {sd : SD} {q : QT} {z : ZT} {cc : ByteArray} {own : String} {nL rk : Nat} {ret : Option FieldType} (C : Ctx sd q z cc own nL rk ret) : GOk sd q := C.2.2.2.2.2.2.2.2.2.2
/-- a value that gets a name -/
def lt_ {α β : Type} (v : α) (g : α → Option β) : Option β := g v
/-- several roads to one place -/
def jn {α β : Type} (body : (α → Option β) → Option β) (k : α → Option β) : Option β := body k
section RX
variable {β : Type} {sd : SD} {q : QT} {z : ZT} {cc : ByteArray} {own : String} {nL rk : Nat} {ret : Option FieldType} {φ : β → Option Value × Mm × Ml} {f : Option β} {μ : Mm} {ν : Ml} {pc : Nat} {lv : List (Nat × Value)} {st : List Value}
theorem R_lt {α : Type} {v : α} {g : α → Option β} (k : ∀ x, x = v → R sd q z nL φ (g x) μ ν pc lv st) : R sd q z nL φ (lt_ v g) μ ν pc lv st := k v rfl
theorem R_nm {v : Int32} {g : Int32 → Option β} (k : ∀ x, R sd q z nL φ (g x) μ ν pc lv (.int x :: st)) : R sd q z nL φ (lt_ v g) μ ν pc lv (.int v :: st) := k v
theorem R_nml {v : Int64} {g : Int64 → Option β} (k : ∀ x, R sd q z nL φ (g x) μ ν pc lv (.long x :: st)) : R sd q z nL φ (lt_ v g) μ ν pc lv (.long v :: st) := k v
theorem R_jn {α : Type} {body : (α → Option β) → Option β} {k : α → Option β} (P : (α → Option β) → Prop) (h1 : P k) (h2 : ∀ k, P k → R sd q z nL φ (body k) μ ν pc lv st) : R sd q z nL φ (jn body k) μ ν pc lv st := h2 k h1
theorem R_putL (C : Ctx sd q z cc own nL rk ret) {b ci index : Nat} {fs : List Value} {Cn ref n d : String} {T : u_T} {N : Nat} {ty : Nat → FieldType} {g : Mm → Option β} (hb : b ∈ sd.1) (hc : sd.2.1 q.2.2.1 q.2.2.2 b (μ b) (ν b) = .inr (ci, fs)) (hcl : vwCl[ci]? = some (Cn, T, N)) (hin : ∀ w ∈ u_ws Cn T N, w ∈ gW) (hty : ∀ k, k < N → parseFieldDescriptor (T k).2.2.1 = some (ty k)) (hnm : ∀ a, a < N → ∀ b, b < N → a ≠ b → (T a).2.1 ≠ (T b).2.1) (k' : Nat) (hk : k' < N) (hT : T k' = (ref, n, d, false)) (hlink : Cond.fieldLink own index ref n d ∈ gW) {x : Int32} (hn : narrow (ty k') (.int x) = .int x) (hft : fits (ty k') (.int x) = true) (hc' : sd.2.1 q.2.2.1 q.2.2.2 b (upd (μ b) k' x) (ν b) = .inr (ci, fs.set k' (.int x))) (hl' : k' < fs.length) (hd : decode cc pc = .ok (.putfield index, 3)) (k : ∀ μ', R sd q z nL φ (g μ') μ' ν (pc + 3) lv st) : R sd q z nL φ (lt_ (up2 μ b k' x) g) μ ν pc lv (.int x :: .ref (q.2.2.1 b) :: st) := R_putf C hb hc hcl hin hty hnm k' hk hT hlink hn hft hc' hl' hd (k _)
theorem iinc_v {n : Int} {v : Int32} (x : Int32) (h : Int32.ofInt n = v) : x + Int32.ofInt n = x + v := by rw [h]
end RX
theorem extM_ok : ExtOk sdM.2.2 := fun _ _ _ _ _ _ _ _ _ _ _ => trivial
theorem mm_0 : 0 ∈ sdM.1 := by decide +kernel
theorem mc_0 (q : QT) (f : Nat → Int32) (g : Nat → Int64) : sdM.2.1 q.2.2.1 q.2.2.2 0 f g = .inr (12, [.int (f 0), .int (f 1), .int (f 2), .int (f 3), .ref (q.2.2.1 4), .ref (q.2.2.1 5), .ref (q.2.2.1 6), .ref (q.2.2.1 7), .ref (q.2.2.1 8), .int (f 9), .int (f 10), .int (f 11), .int (f 12), .int (f 13), .ref (q.2.2.1 14), .ref (q.2.2.1 15), .ref (q.2.2.1 16), .ref (q.2.2.1 17), .ref (q.2.2.1 18), .ref (q.2.2.1 19), .ref (q.2.2.1 20), .ref (q.2.2.1 21), .int (f 22), .int (f 23), .int (f 24), .ref (q.2.2.1 25), .ref (q.2.2.1 26), .int (f 27), .int (f 28), .int (f 29), .int (f 30), .ref (q.2.2.1 31), .ref (q.2.2.1 32), .ref (q.2.2.1 33), .int (f 34), .ref (q.2.2.1 35), .ref (q.2.2.1 36), .int (f 37), .int (f 38), .ref (q.2.2.1 39), .ref (q.2.2.1 40), .ref (q.2.2.1 41), .ref (q.2.2.1 42), .int (f 43), .int (f 44), .int (f 45), .int (f 46), .int (f 47), .int (f 48), .int (f 49), .int (f 50), .int (f 51), .ref (q.2.2.1 52), .ref (q.2.2.1 53), .ref (q.2.2.1 54), .ref (q.2.2.1 55), .ref (q.2.2.1 56), .ref (q.2.2.1 57), .ref (q.2.2.1 58), .ref (q.2.2.1 59), .ref (q.2.2.1 60), .ref (q.2.2.1 61), .ref (q.2.2.1 62), .int (f 63), .ref (q.2.2.1 64), .ref (q.2.2.1 65), .ref (q.2.2.1 66), .ref (q.2.2.1 67), .ref (q.2.2.1 68)]) := rfl
theorem mm_4 : 4 ∈ sdM.1 := by decide +kernel
theorem mc_4 (q : QT) (f : Nat → Int32) (g : Nat → Int64) : sdM.2.1 q.2.2.1 q.2.2.2 4 f g = cInts q.2.2.2 6 f := rfl
theorem mm_5 : 5 ∈ sdM.1 := by decide +kernel
theorem mc_5 (q : QT) (f : Nat → Int32) (g : Nat → Int64) : sdM.2.1 q.2.2.1 q.2.2.2 5 f g = cInts q.2.2.2 6 f := rfl
theorem mm_6 : 6 ∈ sdM.1 := by decide +kernel
theorem mc_6 (q : QT) (f : Nat → Int32) (g : Nat → Int64) : sdM.2.1 q.2.2.1 q.2.2.2 6 f g = cInts q.2.2.2 6 f := rfl
theorem mm_7 : 7 ∈ sdM.1 := by decide +kernel
theorem mc_7 (q : QT) (f : Nat → Int32) (g : Nat → Int64) : sdM.2.1 q.2.2.1 q.2.2.2 7 f g = cInts q.2.2.2 6 f := rfl
theorem mm_8 : 8 ∈ sdM.1 := by decide +kernel
theorem mc_8 (q : QT) (f : Nat → Int32) (g : Nat → Int64) : sdM.2.1 q.2.2.1 q.2.2.2 8 f g = cInts q.2.2.2 24 f := rfl
theorem mm_14 : 14 ∈ sdM.1 := by decide +kernel
theorem mc_14 (q : QT) (f : Nat → Int32) (g : Nat → Int64) : sdM.2.1 q.2.2.1 q.2.2.2 14 f g = cInts q.2.2.2 100 f := rfl
theorem mm_15 : 15 ∈ sdM.1 := by decide +kernel
theorem mc_15 (q : QT) (f : Nat → Int32) (g : Nat → Int64) : sdM.2.1 q.2.2.1 q.2.2.2 15 f g = cInts q.2.2.2 6 f := rfl
theorem mm_16 : 16 ∈ sdM.1 := by decide +kernel
theorem mc_16 (q : QT) (f : Nat → Int32) (g : Nat → Int64) : sdM.2.1 q.2.2.1 q.2.2.2 16 f g = cInts q.2.2.2 60 f := rfl
theorem mm_17 : 17 ∈ sdM.1 := by decide +kernel
theorem mc_17 (q : QT) (f : Nat → Int32) (g : Nat → Int64) : sdM.2.1 q.2.2.1 q.2.2.2 17 f g = cInts q.2.2.2 60 f := rfl
theorem mm_18 : 18 ∈ sdM.1 := by decide +kernel
theorem mc_18 (q : QT) (f : Nat → Int32) (g : Nat → Int64) : sdM.2.1 q.2.2.1 q.2.2.2 18 f g = cInts q.2.2.2 60 f := rfl
theorem mm_19 : 19 ∈ sdM.1 := by decide +kernel
theorem mc_19 (q : QT) (f : Nat → Int32) (g : Nat → Int64) : sdM.2.1 q.2.2.1 q.2.2.2 19 f g = cInts q.2.2.2 60 f := rfl
theorem mm_20 : 20 ∈ sdM.1 := by decide +kernel
theorem mc_20 (q : QT) (f : Nat → Int32) (g : Nat → Int64) : sdM.2.1 q.2.2.1 q.2.2.2 20 f g = cInts q.2.2.2 600 f := rfl
theorem mm_21 : 21 ∈ sdM.1 := by decide +kernel
theorem mc_21 (q : QT) (f : Nat → Int32) (g : Nat → Int64) : sdM.2.1 q.2.2.1 q.2.2.2 21 f g = cInts q.2.2.2 101 f := rfl
theorem mm_25 : 25 ∈ sdM.1 := by decide +kernel
theorem mc_25 (q : QT) (f : Nat → Int32) (g : Nat → Int64) : sdM.2.1 q.2.2.1 q.2.2.2 25 f g = cInts q.2.2.2 16 f := rfl
theorem mm_26 : 26 ∈ sdM.1 := by decide +kernel
theorem mc_26 (q : QT) (f : Nat → Int32) (g : Nat → Int64) : sdM.2.1 q.2.2.1 q.2.2.2 26 f g = .inl (q.2.2.2 3, 100, .inl f) := rfl
theorem mm_31 : 31 ∈ sdM.1 := by decide +kernel
theorem mc_31 (q : QT) (f : Nat → Int32) (g : Nat → Int64) : sdM.2.1 q.2.2.1 q.2.2.2 31 f g = cInts q.2.2.2 6 f := rfl
theorem mm_32 : 32 ∈ sdM.1 := by decide +kernel
theorem mc_32 (q : QT) (f : Nat → Int32) (g : Nat → Int64) : sdM.2.1 q.2.2.1 q.2.2.2 32 f g = cInts q.2.2.2 6 f := rfl
theorem mm_33 : 33 ∈ sdM.1 := by decide +kernel
theorem mc_33 (q : QT) (f : Nat → Int32) (g : Nat → Int64) : sdM.2.1 q.2.2.1 q.2.2.2 33 f g = cInts q.2.2.2 6 f := rfl
theorem mm_35 : 35 ∈ sdM.1 := by decide +kernel
theorem mc_35 (q : QT) (f : Nat → Int32) (g : Nat → Int64) : sdM.2.1 q.2.2.1 q.2.2.2 35 f g = cInts q.2.2.2 5 f := rfl
theorem mm_36 : 36 ∈ sdM.1 := by decide +kernel
theorem mc_36 (q : QT) (f : Nat → Int32) (g : Nat → Int64) : sdM.2.1 q.2.2.1 q.2.2.2 36 f g = cInts q.2.2.2 5 f := rfl
theorem mm_39 : 39 ∈ sdM.1 := by decide +kernel
theorem mc_39 (q : QT) (f : Nat → Int32) (g : Nat → Int64) : sdM.2.1 q.2.2.1 q.2.2.2 39 f g = cInts q.2.2.2 10 f := rfl
theorem mm_40 : 40 ∈ sdM.1 := by decide +kernel
theorem mc_40 (q : QT) (f : Nat → Int32) (g : Nat → Int64) : sdM.2.1 q.2.2.1 q.2.2.2 40 f g = cInts q.2.2.2 10 f := rfl
theorem mm_41 : 41 ∈ sdM.1 := by decide +kernel
theorem mc_41 (q : QT) (f : Nat → Int32) (g : Nat → Int64) : sdM.2.1 q.2.2.1 q.2.2.2 41 f g = cInts q.2.2.2 8 f := rfl
theorem mm_42 : 42 ∈ sdM.1 := by decide +kernel
theorem mc_42 (q : QT) (f : Nat → Int32) (g : Nat → Int64) : sdM.2.1 q.2.2.1 q.2.2.2 42 f g = cInts q.2.2.2 8 f := rfl
theorem mm_52 : 52 ∈ sdM.1 := by decide +kernel
theorem mc_52 (q : QT) (f : Nat → Int32) (g : Nat → Int64) : sdM.2.1 q.2.2.1 q.2.2.2 52 f g = cInts q.2.2.2 6 f := rfl
theorem mm_53 : 53 ∈ sdM.1 := by decide +kernel
theorem mc_53 (q : QT) (f : Nat → Int32) (g : Nat → Int64) : sdM.2.1 q.2.2.1 q.2.2.2 53 f g = cInts q.2.2.2 6 f := rfl
theorem mm_54 : 54 ∈ sdM.1 := by decide +kernel
theorem mc_54 (q : QT) (f : Nat → Int32) (g : Nat → Int64) : sdM.2.1 q.2.2.1 q.2.2.2 54 f g = cInts q.2.2.2 6 f := rfl
theorem mm_55 : 55 ∈ sdM.1 := by decide +kernel
theorem mc_55 (q : QT) (f : Nat → Int32) (g : Nat → Int64) : sdM.2.1 q.2.2.1 q.2.2.2 55 f g = cInts q.2.2.2 6 f := rfl
theorem mm_56 : 56 ∈ sdM.1 := by decide +kernel
theorem mc_56 (q : QT) (f : Nat → Int32) (g : Nat → Int64) : sdM.2.1 q.2.2.1 q.2.2.2 56 f g = cInts q.2.2.2 24 f := rfl
theorem mm_57 : 57 ∈ sdM.1 := by decide +kernel
theorem mc_57 (q : QT) (f : Nat → Int32) (g : Nat → Int64) : sdM.2.1 q.2.2.1 q.2.2.2 57 f g = cInts q.2.2.2 5 f := rfl
theorem mm_58 : 58 ∈ sdM.1 := by decide +kernel
theorem mc_58 (q : QT) (f : Nat → Int32) (g : Nat → Int64) : sdM.2.1 q.2.2.1 q.2.2.2 58 f g = cInts q.2.2.2 5 f := rfl
theorem mm_59 : 59 ∈ sdM.1 := by decide +kernel
theorem mc_59 (q : QT) (f : Nat → Int32) (g : Nat → Int64) : sdM.2.1 q.2.2.1 q.2.2.2 59 f g = cInts q.2.2.2 10 f := rfl
theorem mm_60 : 60 ∈ sdM.1 := by decide +kernel
theorem mc_60 (q : QT) (f : Nat → Int32) (g : Nat → Int64) : sdM.2.1 q.2.2.1 q.2.2.2 60 f g = cInts q.2.2.2 10 f := rfl
theorem mm_61 : 61 ∈ sdM.1 := by decide +kernel
theorem mc_61 (q : QT) (f : Nat → Int32) (g : Nat → Int64) : sdM.2.1 q.2.2.1 q.2.2.2 61 f g = cInts q.2.2.2 8 f := rfl
theorem mm_62 : 62 ∈ sdM.1 := by decide +kernel
theorem mc_62 (q : QT) (f : Nat → Int32) (g : Nat → Int64) : sdM.2.1 q.2.2.1 q.2.2.2 62 f g = cInts q.2.2.2 8 f := rfl
theorem mm_64 : 64 ∈ sdM.1 := by decide +kernel
theorem mc_64 (q : QT) (f : Nat → Int32) (g : Nat → Int64) : sdM.2.1 q.2.2.1 q.2.2.2 64 f g = cInts q.2.2.2 20 f := rfl
theorem mm_65 : 65 ∈ sdM.1 := by decide +kernel
theorem mc_65 (q : QT) (f : Nat → Int32) (g : Nat → Int64) : sdM.2.1 q.2.2.1 q.2.2.2 65 f g = cInts q.2.2.2 6 f := rfl
theorem mm_66 : 66 ∈ sdM.1 := by decide +kernel
theorem mc_66 (q : QT) (f : Nat → Int32) (g : Nat → Int64) : sdM.2.1 q.2.2.1 q.2.2.2 66 f g = cInts q.2.2.2 6 f := rfl
theorem mm_67 : 67 ∈ sdM.1 := by decide +kernel
theorem mc_67 (q : QT) (f : Nat → Int32) (g : Nat → Int64) : sdM.2.1 q.2.2.1 q.2.2.2 67 f g = .inl (q.2.2.2 2, 360, .inr (.inl g)) := rfl
theorem mm_68 : 68 ∈ sdM.1 := by decide +kernel
theorem mc_68 (q : QT) (f : Nat → Int32) (g : Nat → Int64) : sdM.2.1 q.2.2.1 q.2.2.2 68 f g = .inl (q.2.2.2 2, 60, .inr (.inl g)) := rfl
