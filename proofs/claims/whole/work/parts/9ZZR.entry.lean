/-! ===== what is known at the law's entry (printed by wip/gen/entry.py) ===== -/
theorem ew_nS : Cond.methodLinkNest "ExamSlips" 9 yX9_init "ExamSlips" ∈ lw_tbl := List.mem_append_right _ (List.mem_append_left _ (List.mem_of_getElem? (i := 32) rfl))
theorem ew_nR : Cond.methodLinkNest "ExamSlips" 43 yX6_init "ExamSlips" ∈ lw_tbl := List.mem_append_right _ (List.mem_append_left _ (List.mem_of_getElem? (i := 149) rfl))
theorem ew_nY : Cond.methodLinkNest "ExamSlips" 100 yX5_init "ExamSlips" ∈ lw_tbl := List.mem_append_right _ (List.mem_append_right _ (List.mem_append_left _ (List.mem_of_getElem? (i := 191) rfl)))
theorem ew_fT : Cond.fieldLinkNest "ExamSlips$State" 27 "ExamSlips" "TERMS_AT_FIRST" "[I" "ExamSlips" ∈ lw_tbl := List.mem_append_right _ (List.mem_append_left _ (List.mem_of_getElem? (i := 36) rfl))
theorem ew_cl : Cond.castable "[I" "java/lang/Cloneable" ∈ lw_tbl := List.mem_append_right _ (List.mem_append_left _ (List.mem_of_getElem? (i := 43) rfl))
theorem ew_aS : Cond.arrayOver (.object "ExamSlips$State") ∈ lw_tbl := List.mem_append_right _ (List.mem_append_left _ (List.mem_of_getElem? (i := 146) rfl))
theorem ew_aP : Cond.arrayOver (.object "ExamSlips$Paper") ∈ lw_tbl := List.mem_append_right _ (List.mem_append_left _ (List.mem_of_getElem? (i := 46) rfl))
theorem ew_sF : Cond.laysStatic "ExamSlips" "TERMS_AT_FIRST" "[I" ∈ lw_tbl := List.mem_append_right _ (List.mem_append_left _ (List.mem_of_getElem? (i := 37) rfl))
theorem ew_sL : Cond.laysStatic "ExamSlips" "TERMS_LEAST" "[I" ∈ lw_tbl := List.mem_append_right _ (List.mem_append_right _ (List.mem_append_right _ (List.mem_append_left _ (List.mem_of_getElem? (i := 95) rfl))))
theorem ew_sM : Cond.laysStatic "ExamSlips" "TERMS_MOST" "[I" ∈ lw_tbl := List.mem_append_right _ (List.mem_append_right _ (List.mem_append_right _ (List.mem_append_left _ (List.mem_of_getElem? (i := 97) rfl))))
theorem ew_sC : Cond.laysStatic "java/lang/String" "COMPACT_STRINGS" "Z" ∈ lw_tbl := List.mem_append_right _ (List.mem_append_right _ (List.mem_append_right _ (List.mem_append_left _ (List.mem_of_getElem? (i := 152) rfl))))
theorem ew_sP : Cond.laysStatic "jdk/internal/util/Preconditions" "SIOOBE_FORMATTER" "Ljava/util/function/BiFunction;" ∈ lw_tbl := List.mem_append_right _ (List.mem_append_right _ (List.mem_append_right _ (List.mem_append_left _ (List.mem_of_getElem? (i := 168) rfl))))
theorem ew_t0 : Cond.stringRef "ExamSlips$Reader" 88 "hours keeps chance " ∈ lw_tbl := List.mem_append_right _ (List.mem_append_right _ (List.mem_append_right _ (List.mem_append_left _ (List.mem_of_getElem? (i := 139) rfl))))
theorem ew_t1 : Cond.stringRef "ExamSlips$Reader" 94 "king pages level helped liked day question " ∈ lw_tbl := List.mem_append_right _ (List.mem_append_right _ (List.mem_append_right _ (List.mem_append_left _ (List.mem_of_getElem? (i := 191) rfl))))
theorem ew_t2 : Cond.stringRef "ExamSlips$Reader" 96 "if or and not " ∈ lw_tbl := List.mem_append_right _ (List.mem_append_right _ (List.mem_append_right _ (List.mem_append_left _ (List.mem_of_getElem? (i := 192) rfl))))
theorem ew_iE : Cond.initialized "ExamSlips" ∈ lw_tbl := List.mem_append_right _ (List.mem_append_left _ (List.mem_of_getElem? (i := 1) rfl))
theorem ew_iS : Cond.initialized "java/lang/String" ∈ lw_tbl := List.mem_append_right _ (List.mem_append_left _ (List.mem_of_getElem? (i := 14) rfl))
theorem ew_iP : Cond.initialized "jdk/internal/util/Preconditions" ∈ lw_tbl := List.mem_append_right _ (List.mem_append_left _ (List.mem_of_getElem? (i := 16) rfl))
/-- the classes -/
theorem en_cls {args : Array Value} {s : State} (hg : ∀ w ∈ zgood, w.before args s = true) : ∃ (dC : Nat → ClassId) (dI : Nat → Nat → Nat), ∀ (c : Nat) (q : vw_C), zcl[c]? = some q → u_Kn s q.1 q.2.1 q.2.2 (dC c) (dI c) := by
  have h : ∀ c : Nat, ∃ d : ClassId × (Nat → Nat), ∀ q : vw_C, zcl[c]? = some q → u_Kn s q.1 q.2.1 q.2.2 d.1 d.2 := by
    intro c
    match c with
    | 0 =>
      obtain ⟨cC, iS, h⟩ := u_known (C := RX0) (T := TX0) (N := 7) hg inX0 (hg _ wT_X0)
      refine ⟨(cC, iS), fun q hq => ?_⟩
      obtain rfl : (RX0, TX0, 7) = q := Option.some.inj hq
      exact h
    | 1 =>
      obtain ⟨cC, iS, h⟩ := u_known (C := RX1) (T := TX1) (N := 10) hg inX1 (hg _ wT_X1)
      refine ⟨(cC, iS), fun q hq => ?_⟩
      obtain rfl : (RX1, TX1, 10) = q := Option.some.inj hq
      exact h
    | 2 =>
      obtain ⟨cC, iS, h⟩ := u_known (C := RX2) (T := TX2) (N := 8) hg inX2 (hg _ wT_X2)
      refine ⟨(cC, iS), fun q hq => ?_⟩
      obtain rfl : (RX2, TX2, 8) = q := Option.some.inj hq
      exact h
    | 3 =>
      obtain ⟨cC, iS, h⟩ := u_known (C := RX3) (T := TX3) (N := 4) hg inX3 (hg _ wT_X3)
      refine ⟨(cC, iS), fun q hq => ?_⟩
      obtain rfl : (RX3, TX3, 4) = q := Option.some.inj hq
      exact h
    | 4 =>
      obtain ⟨cC, iS, h⟩ := u_known (C := RX4) (T := TX4) (N := 20) hg inX4 (hg _ wT_X4)
      refine ⟨(cC, iS), fun q hq => ?_⟩
      obtain rfl : (RX4, TX4, 20) = q := Option.some.inj hq
      exact h
    | 5 =>
      obtain ⟨cC, iS, h⟩ := u_known (C := RX5) (T := TX5) (N := 2) hg inX5 (hg _ wT_X5)
      refine ⟨(cC, iS), fun q hq => ?_⟩
      obtain rfl : (RX5, TX5, 2) = q := Option.some.inj hq
      exact h
    | 6 =>
      obtain ⟨cC, iS, h⟩ := u_known (C := RX6) (T := TX6) (N := 11) hg inX6 (hg _ wT_X6)
      refine ⟨(cC, iS), fun q hq => ?_⟩
      obtain rfl : (RX6, TX6, 11) = q := Option.some.inj hq
      exact h
    | 7 =>
      obtain ⟨cC, iS, h⟩ := u_known (C := RX7) (T := TX7) (N := 12) hg inX7 (hg _ wT_X7)
      refine ⟨(cC, iS), fun q hq => ?_⟩
      obtain rfl : (RX7, TX7, 12) = q := Option.some.inj hq
      exact h
    | 8 =>
      obtain ⟨cC, iS, h⟩ := u_known (C := RX8) (T := TX8) (N := 9) hg inX8 (hg _ wT_X8)
      refine ⟨(cC, iS), fun q hq => ?_⟩
      obtain rfl : (RX8, TX8, 9) = q := Option.some.inj hq
      exact h
    | 9 =>
      obtain ⟨cC, iS, h⟩ := u_known (C := RX9) (T := TX9) (N := 18) hg inX9 (hg _ wT_X9)
      refine ⟨(cC, iS), fun q hq => ?_⟩
      obtain rfl : (RX9, TX9, 18) = q := Option.some.inj hq
      exact h
    | 10 =>
      obtain ⟨cC, iS, h⟩ := u_known (C := RX10) (T := TX10) (N := 4) hg inX10 (hg _ wT_X10)
      refine ⟨(cC, iS), fun q hq => ?_⟩
      obtain rfl : (RX10, TX10, 4) = q := Option.some.inj hq
      exact h
    | 11 =>
      obtain ⟨cC, iS, h⟩ := u_known (C := RX11) (T := TX11) (N := 19) hg inX11 (hg _ wT_X11)
      refine ⟨(cC, iS), fun q hq => ?_⟩
      obtain rfl : (RX11, TX11, 19) = q := Option.some.inj hq
      exact h
    | 12 =>
      obtain ⟨cC, iS, h⟩ := u_known (C := RX12) (T := TX12) (N := 70) hg inX12 (hg _ wT_X12)
      refine ⟨(cC, iS), fun q hq => ?_⟩
      obtain rfl : (RX12, TX12, 70) = q := Option.some.inj hq
      exact h
    | n + 13 => exact ⟨((0 : Nat), fun _ => 0), fun q hq => absurd ((List.getElem?_eq_some_iff.mp hq).1) (by show ¬ n + 13 < 13; omega)⟩
  obtain ⟨f, hf⟩ := Classical.axiomOfChoice h
  exact ⟨fun c => (f c).1, fun c => (f c).2, fun c q hq => hf c q hq⟩
theorem en_arr {args : Array Value} {s : State} {ty : FieldType} (h : (Cond.arrayClass ty).before args s = true) : ∃ c : ClassId, ArrOfT s c ty ∧ s.vm.findClass ("[" ++ ty.toString) = some c := by
  obtain ⟨c, k, comp, h1, h2, h3⟩ := Cond.arrayClass_spec h
  exact ⟨c, fun n z => ⟨fun _ h => (by cases h), k, h2, comp, h3⟩, h1⟩
theorem en_arrO {args : Array Value} {s : State} {C : String} (h : (Cond.arrayOver (.object C)).before args s = true) : ∃ c : ClassId, ArrOfT s c (.object C) ∧ va_RA s c (.object C) := by
  obtain ⟨comp, c, k, h1, -, h3, h4, h5⟩ := Cond.arrayOver_spec h
  exact ⟨c, fun n z => ⟨fun _ h => (by cases h), k, h3, comp, h4⟩, k, comp, h3, h4, h1, h5⟩
/-- a given array of ints, whole -/
theorem en_X {args : Array Value} {s : State} {tm : Term} {N : Nat} {f : Nat → Int32} (hN : N < 2 ^ 31) (harr : (Cond.arrayOf tm .int).before args s = true) (hlen : (Cond.eq (.length tm) (.int (Int32.ofNat N))).before args s = true) (hel : ∀ j : Nat, j < N → (Cond.eq (.elem tm (.int (Int32.ofNat j))) (.int (f j))).before args s = true) :
    ∃ t : Nat, tm.eval args s none [] s = some (.ref t) ∧ va_X t N f s s.heap ∧ t < s.heap.size := by
  have hv := va_eqt hlen
  obtain ⟨t, ht, cell, h1, h2, h3, h4, h5, h6, h7⟩ := va_Tof (A := fun q => s.heap.size ≤ q) (f := fun j => .int (f j)) hN harr hv (fun j hj => va_eqt (hel j hj)) (fun a h => by omega)
  refine ⟨t, ht, ⟨cell, h1, h2, h3, ?_, h6⟩, (Array.getElem?_eq_some_iff.mp h1).1⟩
  obtain ⟨a', cell', e1, e2, -⟩ := Term.length_spec hv
  have ea : t = a' := by
    have := ht.symm.trans e1
    simpa using this
  subst ea
  obtain ⟨e3, -, -, -⟩ := State.arrayAt?_spec e2
  have ec : cell = cell' := Option.some.inj (h1.symm.trans e3)
  subst ec
  have hlt : cell.slots.size < 2 ^ 31 := by
    simp only [Term.eval, ht, e2, Option.bind_eq_bind, Option.bind_some] at hv
    by_cases hlt : cell.slots.size < 2147483648
    · exact hlt
    · simp [hlt] at hv
  have e := congrArg Int32.toInt h5
  rw [Int32.toInt_ofNat_small hN, show cell.slots.size.toInt32 = Int32.ofNat cell.slots.size from rfl, Int32.toInt_ofNat_small hlt] at e
  omega
theorem en_TL : ∀ k, -2147483648 ≤ zTL.getD k 0 ∧ zTL.getD k 0 ≤ 2147483647 := fun k => by
  rcases Nat.lt_or_ge k 7 with h | h
  · exact (show ∀ k, k < 7 → -2147483648 ≤ zTL.getD k 0 ∧ zTL.getD k 0 ≤ 2147483647 by decide) k h
  · rw [List.getD_eq_getElem?_getD, List.getElem?_eq_none (show zTL.length ≤ k from h)]; decide
theorem en_TM : ∀ k, -2147483648 ≤ zTM.getD k 0 ∧ zTM.getD k 0 ≤ 2147483647 := fun k => by
  rcases Nat.lt_or_ge k 7 with h | h
  · exact (show ∀ k, k < 7 → -2147483648 ≤ zTM.getD k 0 ∧ zTM.getD k 0 ≤ 2147483647 by decide) k h
  · rw [List.getD_eq_getElem?_getD, List.getElem?_eq_none (show zTM.length ≤ k from h)]; decide
theorem en_TF : ∀ k, -2147483648 ≤ zTF.getD k 0 ∧ zTF.getD k 0 ≤ 2147483647 := fun k => by
  rcases Nat.lt_or_ge k 7 with h | h
  · exact (show ∀ k, k < 7 → -2147483648 ≤ zTF.getD k 0 ∧ zTF.getD k 0 ≤ 2147483647 by decide) k h
  · rw [List.getD_eq_getElem?_getD, List.getElem?_eq_none (show zTF.length ≤ k from h)]; decide
abbrev enG : List Cond := flatC (Jvm.Cond.and given_1 narrow_1)
abbrev enS (n : String) : Term := .static "ExamSlips" n "[I"
theorem en_gL : Cond.arrayOf (enS "TERMS_LEAST") .int ∈ enG ∧ Cond.eq (.length (enS "TERMS_LEAST")) (.int (Int32.ofNat 7)) ∈ enG ∧ ∀ j, j < 7 → Cond.eq (.elem (enS "TERMS_LEAST") (.int (Int32.ofNat j))) (.int (Int32.ofInt (zTL.getD j 0))) ∈ enG := by decide +kernel
theorem en_gM : Cond.arrayOf (enS "TERMS_MOST") .int ∈ enG ∧ Cond.eq (.length (enS "TERMS_MOST")) (.int (Int32.ofNat 7)) ∈ enG ∧ ∀ j, j < 7 → Cond.eq (.elem (enS "TERMS_MOST") (.int (Int32.ofNat j))) (.int (Int32.ofInt (zTM.getD j 0))) ∈ enG := by decide +kernel
theorem en_gF : Cond.arrayOf (enS "TERMS_AT_FIRST") .int ∈ enG ∧ Cond.eq (.length (enS "TERMS_AT_FIRST")) (.int (Int32.ofNat 7)) ∈ enG ∧ ∀ j, j < 7 → Cond.eq (.elem (enS "TERMS_AT_FIRST") (.int (Int32.ofNat j))) (.int (Int32.ofInt (zTF.getD j 0))) ∈ enG := by decide +kernel
theorem en_gX : Cond.exactly (enS "TERMS_AT_FIRST") "[I" ∈ enG ∧ Cond.eq (.static "java/lang/String" "COMPACT_STRINGS" "Z") (.int 1) ∈ enG ∧ Cond.isRef (.static "jdk/internal/util/Preconditions" "SIOOBE_FORMATTER" "Ljava/util/function/BiFunction;") ∈ enG := by decide +kernel
def enT (i : Nat) : Term := .string "ExamSlips$Reader" (match i with | 0 => 88 | 1 => 94 | _ => 96)
abbrev enV (i : Nat) : Term := .field (enT i) "java/lang/String" "value" "[B"
theorem en_s1 : ∀ i, i < 3 → Cond.exactly (enT i) "java/lang/String" ∈ enG ∧ Cond.eq (.field (enT i) "java/lang/String" "coder" "B") (.int 0) ∈ enG ∧ Cond.arrayOf (enV i) .byte ∈ enG ∧ Cond.eq (.length (enV i)) (.int (Int32.ofNat (([19, 43, 14] : List Nat).getD i 0))) ∈ enG := by decide +kernel
theorem en_s2_0 : ∀ j, j < 19 → Cond.eq (.elem (enV 0) (.int (Int32.ofNat j))) (.int ((zsby.getD 0 []).getD j 0)) ∈ enG := by decide +kernel
theorem en_s2_1 : ∀ j, j < 43 → Cond.eq (.elem (enV 1) (.int (Int32.ofNat j))) (.int ((zsby.getD 1 []).getD j 0)) ∈ enG := by decide +kernel
theorem en_s2_2 : ∀ j, j < 14 → Cond.eq (.elem (enV 2) (.int (Int32.ofNat j))) (.int ((zsby.getD 2 []).getD j 0)) ∈ enG := by decide +kernel
theorem en_s3 : Cond.not (.eq (enT 0) (enT 1)) ∈ enG ∧ Cond.not (.eq (enT 0) (enT 2)) ∈ enG ∧ Cond.not (.eq (enT 1) (enT 2)) ∈ enG := by decide +kernel
def enA (b tL tM tF q4 : Nat) (adK adV : Nat → Nat) (j : Nat) : Nat := if j = 0 then b else if j = 1 then tL else if j = 2 then tM else if j = 3 then tF else if j = 4 then q4 else if j < 20 then adK (j - 10) else adV (j - 20)
theorem en_K {args : Array Value} {s : State} {b L : Nat} {xs : Nat → Int32} (hL : L ≤ 3072) (hts : ∀ w ∈ lw_tbl, w.before args s = true) (hX : va_X b L xs s s.heap) (hbl : b < s.heap.size) (hgv : (Jvm.Cond.and given_1 narrow_1).before args s = true) :
    ∃ E : zE, E.2.2.1 = s.heap ∧ E.2.2.2.1 0 = b ∧ zgl E 0 ≤ 3072 ∧ (∀ k, -2147483648 ≤ zga E 0 k ∧ zga E 0 k ≤ 2147483647) ∧ zKn E s := by
  have hs : ∀ c ∈ enG, c.before args s = true := flat_of_before _ hgv
  have hg : ∀ w ∈ zgood, w.before args s = true := fun w h => hts w (zg_good w h).1
  have hA : ∀ a : Nat, a < s.heap.size → ¬ (fun q : Nat => s.heap.size ≤ q) a := fun a h => by show ¬ s.heap.size ≤ a; omega
  obtain ⟨dC, dI, hKc⟩ := en_cls hg
  obtain ⟨ai, i1, i2⟩ := en_arr (hg _ wA_int)
  obtain ⟨al, l1, l2⟩ := en_arr (hg _ wA_long)
  obtain ⟨ay, y1, y2⟩ := en_arr (hg _ wA_byte)
  obtain ⟨az, z1, z2⟩ := en_arr (hg _ wA_boolean)
  obtain ⟨aS, s1, s2⟩ := en_arrO (hts _ ew_aS)
  obtain ⟨aP, p1, p2⟩ := en_arrO (hts _ ew_aP)
  obtain ⟨tL, eL, xL, bL⟩ := en_X (f := fun j => Int32.ofInt (zTL.getD j 0)) (by decide) (hs _ en_gL.1) (hs _ en_gL.2.1) (fun j hj => hs _ (en_gL.2.2 j hj))
  obtain ⟨tM, eM, xM, bM⟩ := en_X (f := fun j => Int32.ofInt (zTM.getD j 0)) (by decide) (hs _ en_gM.1) (hs _ en_gM.2.1) (fun j hj => hs _ (en_gM.2.2 j hj))
  obtain ⟨tF, eF, xF, bF⟩ := en_X (f := fun j => Int32.ofInt (zTF.getD j 0)) (by decide) (hs _ en_gF.1) (hs _ en_gF.2.1) (fun j hj => hs _ (en_gF.2.2 j hj))
  have zL := va_Zref (A := fun q : Nat => s.heap.size ≤ q) (hts _ ew_sL) (hts _ ew_iE) eL hA
  have zM := va_Zref (A := fun q : Nat => s.heap.size ≤ q) (hts _ ew_sM) (hts _ ew_iE) eM hA
  have zF := va_Zref (A := fun q : Nat => s.heap.size ≤ q) (hts _ ew_sF) (hts _ ew_iE) eF hA
  have zC := va_Zof (A := fun q : Nat => s.heap.size ≤ q) (hts _ ew_sC) (hts _ ew_iS) (va_eqi (hs _ en_gX.2.1)) hA
  have zQ : ∃ q4 : Nat, va_Z "jdk/internal/util/Preconditions" "SIOOBE_FORMATTER" "Ljava/util/function/BiFunction;" .null (fun q : Nat => s.heap.size ≤ q) s s.heap ∨ va_Z "jdk/internal/util/Preconditions" "SIOOBE_FORMATTER" "Ljava/util/function/BiFunction;" (.ref q4) (fun q : Nat => s.heap.size ≤ q) s s.heap := by
    rcases va_Zqof (A := fun q : Nat => s.heap.size ≤ q) (hts _ ew_sP) (hts _ ew_iP) (hs _ en_gX.2.2) hA with h | ⟨t, h⟩
    · exact ⟨0, Or.inl h⟩
    · exact ⟨t, Or.inr h⟩
  obtain ⟨q4, zQ⟩ := zQ
  obtain ⟨adK, adV, kS, kE⟩ := vk_Sof (args := args) (s := s) (N := 3) (tm := enT) (len := [19, 43, 14]) (byt := zsby) (A := fun q : Nat => s.heap.size ≤ q) (by decide) (fun i hi => hs _ (en_s1 i hi).1) (fun i hi => hs _ (en_s1 i hi).2.1) (fun i hi => hs _ (en_s1 i hi).2.2.1) (fun i hi => hs _ (en_s1 i hi).2.2.2)
    (fun i hi j hj => by
      match i, hi with
      | 0, _ => exact hs _ (en_s2_0 j hj)
      | 1, _ => exact hs _ (en_s2_1 j hj)
      | 2, _ => exact hs _ (en_s2_2 j hj)
      | n + 3, h => exact absurd h (by omega))
    (fun i j hi hj hij => by
      match i, j, hi, hj with
      | 0, 0, _, _ => exact absurd rfl hij
      | 0, 1, _, _ => exact Or.inl (hs _ en_s3.1)
      | 0, 2, _, _ => exact Or.inl (hs _ en_s3.2.1)
      | 1, 0, _, _ => exact Or.inr (hs _ en_s3.1)
      | 1, 1, _, _ => exact absurd rfl hij
      | 1, 2, _, _ => exact Or.inl (hs _ en_s3.2.2)
      | 2, 0, _, _ => exact Or.inr (hs _ en_s3.2.1)
      | 2, 1, _, _ => exact Or.inr (hs _ en_s3.2.2)
      | 2, 2, _, _ => exact absurd rfl hij
      | n + 3, _, h, _ => exact absurd h (by omega)
      | 0, n + 3, _, h => exact absurd h (by omega)
      | 1, n + 3, _, h => exact absurd h (by omega)
      | 2, n + 3, _, h => exact absurd h (by omega)) hA
  obtain ⟨xc, c0, cell, kk, x1, x2, x3, -, -, x6, -⟩ := Cond.exactly_spec (args := args) (first := s) (o := none) (s := s) (idx := []) (hs _ en_gX.1)
  obtain rfl : tF = xc := by
    have := eF.symm.trans x1
    simpa using this
  have k0 : ∀ i, i < 3 → enA b tL tM tF q4 adK adV (10 + i) = adK i := fun i hi => by
    unfold enA
    rw [if_neg (by omega), if_neg (by omega), if_neg (by omega), if_neg (by omega), if_neg (by omega), if_pos (by omega), Nat.add_sub_cancel_left]
  have v0 : ∀ i, i < 3 → enA b tL tM tF q4 adK adV (20 + i) = adV i := fun i hi => by
    unfold enA
    rw [if_neg (by omega), if_neg (by omega), if_neg (by omega), if_neg (by omega), if_neg (by omega), if_neg (by omega), Nat.add_sub_cancel_left]
  refine ⟨((dC, dI), fun k => match k with | 20 => ai | 21 => al | 22 => ay | 23 => az | 24 => aS | _ => aP, s.heap, enA b tL tM tF q4 adK adV, L, fun k => (xs k).toInt), rfl, rfl, hL, fun k => ?_, ⟨⟨hKc, ?_⟩, ?_, ⟨zL, zM, zF, zC⟩, ?_, ?_, ?_, ?_, ?_, cell, x3, ?_, zQ⟩⟩
  · have h1 := Int32.le_toInt (xs k)
    have h2 := Int32.toInt_lt (xs k)
    show -2147483648 ≤ (xs k).toInt ∧ (xs k).toInt ≤ 2147483647
    omega
  · intro k q hq
    match k with
    | 0 => obtain rfl := Option.some.inj hq; exact ⟨i1, i2⟩
    | 1 => obtain rfl := Option.some.inj hq; exact ⟨l1, l2⟩
    | 2 => obtain rfl := Option.some.inj hq; exact ⟨y1, y2⟩
    | 3 => obtain rfl := Option.some.inj hq; exact ⟨z1, z2⟩
    | 4 => obtain rfl := Option.some.inj hq; exact ⟨s1, s2⟩
    | 5 => obtain rfl := Option.some.inj hq; exact ⟨p1, p2⟩
    | n + 6 => exact absurd ((List.getElem?_eq_some_iff.mp hq).1) (by show ¬ n + 6 < 6; omega)
  · intro w hw
    simp only [znest, List.mem_cons, List.not_mem_nil, or_false] at hw
    rcases hw with rfl | rfl | rfl | rfl | rfl | rfl | rfl
    · exact va_Nw.of rfl (hts _ ew_nS)
    · exact va_Nw.of rfl (hts _ ew_nR)
    · exact va_Nw.of rfl (hts _ ew_nY)
    · exact va_Nw.of rfl (hts _ ew_fT)
    · exact va_Nw.of rfl (hts _ ew_cl)
    · exact hts _ ew_aS
    · exact hts _ ew_aP
  · intro j hj
    match j, hj with
    | 0, _ =>
      refine ⟨?_, hbl, Nat.le_trans hL (by decide), fun k => ?_⟩
      · show va_X b L (fun k => Int32.ofInt ((xs k).toInt)) s s.heap
        rw [show (fun k => Int32.ofInt ((xs k).toInt)) = xs from funext fun k => Int32.ofInt_toInt (xs k)]
        exact hX
      · have h1 := Int32.le_toInt (xs k)
        have h2 := Int32.toInt_lt (xs k)
        show -2147483648 ≤ (xs k).toInt ∧ (xs k).toInt ≤ 2147483647
        omega
    | 1, _ => exact ⟨xL, bL, (show 7 ≤ 1000000 by decide), en_TL⟩
    | 2, _ => exact ⟨xM, bM, (show 7 ≤ 1000000 by decide), en_TM⟩
    | 3, _ => exact ⟨xF, bF, (show 7 ≤ 1000000 by decide), en_TF⟩
    | n + 4, h => exact absurd h (by omega)
  · exact vk_R.of (hts _ ew_t0) ((kE 0 (by omega)).trans (congrArg (fun a => some (Value.ref a)) (k0 0 (by omega)).symm))
  · exact vk_R.of (hts _ ew_t1) ((kE 1 (by omega)).trans (congrArg (fun a => some (Value.ref a)) (k0 1 (by omega)).symm))
  · exact vk_R.of (hts _ ew_t2) ((kE 2 (by omega)).trans (congrArg (fun a => some (Value.ref a)) (k0 2 (by omega)).symm))
  · refine ⟨fun i hi => ?_, fun i j hi hj => ?_⟩
    · show va_O _ (enA b tL tM tF q4 adK adV (10 + i)) _ _ _ ∧ va_OF _ _ _ _ (enA b tL tM tF q4 adK adV (10 + i)) _ _ _ ∧ va_OF _ _ _ (.ref (enA b tL tM tF q4 adK adV (20 + i))) (enA b tL tM tF q4 adK adV (10 + i)) _ _ _ ∧ va_T _ (enA b tL tM tF q4 adK adV (20 + i)) _ _ _ _ _
      rw [k0 i hi, v0 i hi]
      exact kS.1 i hi
    · show enA b tL tM tF q4 adK adV (10 + i) = enA b tL tM tF q4 adK adV (10 + j) → i = j
      rw [k0 i hi, k0 j hj]
      exact kS.2 i j hi hj
  · rw [x6]; exact x2
