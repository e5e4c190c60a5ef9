/-! ===== Object's constructor, texts, copies ===== -/
theorem zws_set {E : zE} {F : zFs} {D D' : zDa} {n a : Nat} (hD : ∀ b, b ≠ a → D' b = D b) : (zws E F D n).set a (zB E + a, zent E F D' a) = zws E F D' n := by
  apply List.ext_getElem?
  intro j
  rw [List.getElem?_set]
  by_cases hj : a = j
  · subst hj
    rw [if_pos rfl]
    by_cases hn : a < n
    · rw [zws_get hn]; simp [zws, hn]
    · simp [zws, hn]
  · rw [if_neg hj]
    by_cases hn : j < n
    · rw [zws_get hn, zws_get hn, zent_congr (F := F) (D := D) rfl (hD j (Ne.symm hj))]
    · simp [zws, hn]
section ZX
variable {α : Type} {l : Launch} {E : zE} {d : Nat} {Y : zY} {pc : Nat} {ls : zLs} {st : List zV} {F : zFs} {D : zDa} {n sl : Nat} {cv : α → zRes} {x : Option α}
theorem zW_size {p : Program} {e : Env} {R : Room} {s : State} {m : MethodId} {args : Array Value} {below : List Frame} {meth : Method} {c : Code} {H : Heap} {locs : List Loc} {cells slots : Nat} {Q : State → Prop} {g : JFrame} (h : H.size ≤ s.heap.size + cells → W p l e R s m args below meth c H locs cells slots Q g) : W p l e R s m args below meth c H locs cells slots Q g := by
  intro T hT X
  exact h (by rw [← hT]; exact X.heapSize) T hT X
theorem zO_objI {a j : Nat} {M : zM} (hi : decode Y.2.1 pc = .ok (.invokespecial j, 3)) (hwm : Cond.methodLink Y.1.cls j objectInit ∈ zgood) (hw8 : zwid st ≤ 8) (k : zO l E d Y (pc + 3) ls st M cv x) : zO l E d Y pc ls (zR a :: st) M cv x := zO_go (fun p e Rm s m args below meth co H locs cells slots Q rls n0 hC hR hL hn hok hl kk => by
  obtain ⟨hx, hb, hml, hown, hnm, hts, hK, hf1, hf2, hT, hh1, hh2⟩ := id hC
  have hlr : 2 * (F0 m pc rls ((zR a :: st).map (zval E))).monitorRoom + ((st.map (zval E)).map fun v => v.category).sum + 12 ≤ Rm.locals := by
    show 2 * 0 + _ + 12 ≤ _
    rw [zmapcat]; omega
  exact W.objInit hx hb hown (hts _ hwm) (hts _ wI_Ob_init) (hts _ wC_Ob_init) rfl (hl.1.trans hml.symm) rfl hi (by omega) hlr (kk rls hok.tl hl)) k
theorem zO_sval {j j0 : Nat} {M : zM} (hi : decode Y.2.1 pc = .ok (.getfield j, 3)) (hj : j0 < 3) (hw : Cond.fieldLink Y.1.cls j "java/lang/String" "value" "[B" ∈ zgood) (k : zO l E d Y (pc + 3) ls (zR (1000000 + (20 + j0)) :: st) M cv x) : zO l E d Y pc ls (zR (1000000 + (10 + j0)) :: st) M cv x := zO_go (fun p e Rm s m args below meth co H locs cells slots Q rls n0 hC hR hL hn hok hl kk => by
  obtain ⟨hx, hb, hml, hown, hnm, hts, hK, hf1, hf2, hT, hh1, hh2⟩ := id hC
  have hkk := kk rls (hok.tl.cons (v := zR (1000000 + (20 + j0))) trivial) hl
  rw [List.map_cons, show zval E (zR (1000000 + (20 + j0))) = Value.ref (E.2.2.2.1 (20 + j0)) from congrArg Value.ref (zad_st E _)] at hkk
  show W p l e Rm s m args below meth co H locs cells slots Q (F0 m pc rls (Value.ref (zad E (1000000 + (10 + j0))) :: st.map (zval E)))
  rw [zad_st]
  exact vk_getf hx hb ((hK.2.2.2.2.2.2.2.1.kept (zS2 hC)).1 j0 hj).2.2.1 (zS_of hC hR hL hn) hown (hts _ hw) (fun _ h => h) hi hkk) k
theorem zO_scod {j j0 : Nat} {M : zM} (hi : decode Y.2.1 pc = .ok (.getfield j, 3)) (hj : j0 < 3) (hw : Cond.fieldLink Y.1.cls j "java/lang/String" "coder" "B" ∈ zgood) (k : zO l E d Y (pc + 3) ls (zI 0 :: st) M cv x) : zO l E d Y pc ls (zR (1000000 + (10 + j0)) :: st) M cv x := zO_go (fun p e Rm s m args below meth co H locs cells slots Q rls n0 hC hR hL hn hok hl kk => by
  obtain ⟨hx, hb, hml, hown, hnm, hts, hK, hf1, hf2, hT, hh1, hh2⟩ := id hC
  have hkk := kk rls (hok.tl.cons (v := zI 0) (show -2147483648 ≤ (0 : Int) ∧ (0 : Int) ≤ 2147483647 by decide)) hl
  show W p l e Rm s m args below meth co H locs cells slots Q (F0 m pc rls (Value.ref (zad E (1000000 + (10 + j0))) :: st.map (zval E)))
  rw [zad_st]
  exact vk_getf hx hb ((hK.2.2.2.2.2.2.2.1.kept (zS2 hC)).1 j0 hj).2.1 (zS_of hC hR hL hn) hown (hts _ hw) (fun _ h => h) hi hkk) k
/-- the signs of the given texts -/
def zsg (j0 k : Nat) : Int := ((zsby.getD j0 []).getD k 0).toInt
def zsl (j0 : Nat) : Nat := ([19, 43, 14] : List Nat).getD j0 0
theorem zO_sbald {j0 : Nat} {j : Int} {M : zM} (hi : decode Y.2.1 pc = .ok (.baload, 1)) (h3 : j0 < 3) (hj : 0 ≤ j ∧ j < zsl j0) (k : zO l E d Y (pc + 1) ls (zI (zsg j0 j.toNat) :: st) M cv x) : zO l E d Y pc ls (zI j :: zR (1000000 + (20 + j0)) :: st) M cv x := zO_go (fun p e Rm s m args below meth co H locs cells slots Q rls n0 hC hR hL hn hok hl kk => by
  obtain ⟨hx, hb, hml, hown, hnm, hts, hK, hf1, hf2, hT, hh1, hh2⟩ := id hC
  have hj0 : -2147483648 ≤ j ∧ j ≤ 2147483647 := hok.hd
  have hkk := kk rls (hok.tl.tl.cons (v := zI (zsg j0 j.toNat)) (z32_rng _)) hl
  rw [List.map_cons, show zval E (zI (zsg j0 j.toNat)) = Value.int ((zsby.getD j0 []).getD j.toNat 0) from congrArg Value.int (Int32.ofInt_toInt _)] at hkk
  show W p l e Rm s m args below meth co H locs cells slots Q (F0 m pc rls (Value.int (Int32.ofInt j) :: Value.ref (zad E (1000000 + (20 + j0))) :: st.map (zval E)))
  rw [zad_st]
  exact va_tb hx hb ((hK.2.2.2.2.2.2.2.1.kept (zS2 hC)).1 j0 h3).2.2.2 (zS_of hC hR hL hn) (z32_in hj0 hj) (by rw [z32_nat hj0]) hi hkk) k
theorem zO_sblen {j0 : Nat} {M : zM} (hi : decode Y.2.1 pc = .ok (.arraylength, 1)) (h3 : j0 < 3) (k : zO l E d Y (pc + 1) ls (zI (zsl j0 : Int) :: st) M cv x) : zO l E d Y pc ls (zR (1000000 + (20 + j0)) :: st) M cv x := zO_go (fun p e Rm s m args below meth co H locs cells slots Q rls n0 hC hR hL hn hok hl kk => by
  obtain ⟨hx, hb, hml, hown, hnm, hts, hK, hf1, hf2, hT, hh1, hh2⟩ := id hC
  have hsl : zsl j0 ≤ 43 := by
    rcases (show j0 = 0 ∨ j0 = 1 ∨ j0 = 2 by omega) with rfl | rfl | rfl <;> decide
  have hkk := kk rls (hok.tl.cons (v := zI (zsl j0 : Int)) ⟨by omega, by omega⟩) hl
  show W p l e Rm s m args below meth co H locs cells slots Q (F0 m pc rls (Value.ref (zad E (1000000 + (20 + j0))) :: st.map (zval E)))
  rw [zad_st]
  exact va_tlen hx hb ((hK.2.2.2.2.2.2.2.1.kept (zS2 hC)).1 j0 h3).2.2.2 (zS_of hC hR hL hn) (v := Int32.ofInt (zsl j0 : Int)) Int32.ofInt_eq_ofNat.symm hi hkk) k
theorem zcpy_map {f g : Nat → Int} {sp dp m : Nat} {β : Type} (h : Int → β) : va_cpy (fun j => h (f j)) (fun j => h (g j)) sp dp m = fun j => h (va_cpy f g sp dp m j) := by
  funext j
  unfold va_cpy
  split <;> rfl
theorem zO_copy {a b j kd : Nat} {sp dp z : Int} (hi : decode Y.2.1 pc = .ok (.invokestatic j, 3)) (hwm : Cond.methodLink Y.1.cls j ⟨"java/lang/System", "arraycopy", "(Ljava/lang/Object;ILjava/lang/Object;II)V"⟩ ∈ zgood) (hkd : kd = 20 ∨ kd = 21) (ha : (F a).1 = kd) (hb : (F b).1 = kd) (h1 : 0 ≤ sp ∧ 0 ≤ dp ∧ 0 ≤ z ∧ sp + z ≤ (F a).2.1 ∧ dp + z ≤ (F b).2.1) (hw8 : zwid st ≤ 8) (k : zO l E d Y (pc + 3) ls st (F, zrow D b (va_cpy (D a) (D b) sp.toNat dp.toNat z.toNat), n, sl) cv x) : zO l E d Y pc ls (zI z :: zI dp :: zR b :: zI sp :: zR a :: st) (F, D, n, sl) cv x := by
  intro r hr
  obtain ⟨hm, hk⟩ := k r hr
  refine ⟨hm, fun hok p e Rm s m args below meth co H locs Q rls n0 s0 hC hR hL hl hn hq => ?_⟩
  obtain ⟨hx, hbc, hml, hown, hnm0, hts, hK, hf1, hf2, hT, hh1, hh2⟩ := id hC
  have hlta := zkind_lt hR ha (by omega)
  have hltb := zkind_lt hR hb (by omega)
  have hz0 : -2147483648 ≤ z ∧ z ≤ 2147483647 := hok.hd
  have hdp0 : -2147483648 ≤ dp ∧ dp ≤ 2147483647 := hok.tl.hd
  have hsp0 : -2147483648 ≤ sp ∧ sp ≤ 2147483647 := hok.tl.tl.tl.hd
  have hng : ∀ q : Int, (-2147483648 ≤ q ∧ q ≤ 2147483647) → 0 ≤ q → ¬ Int32.ofInt q < 0 := fun q hq h0 => by
    rw [Int32.lt_iff_toInt_lt, z32 hq]; simpa using h0
  have hok5 : zoks ls st := hok.tl.tl.tl.tl.tl
  have hlen : (F a).2.1 ≤ 1000000 ∧ (F b).2.1 ≤ 1000000 := ⟨(hR.2.2.2.1 a hlta).2, (hR.2.2.2.1 b hltb).2⟩
  show W p l e Rm s m args below meth co H locs (n - n0) (sl - s0) Q (F0 m pc rls (Value.int (Int32.ofInt z) :: Value.int (Int32.ofInt dp) :: Value.ref (zad E b) :: Value.int (Int32.ofInt sp) :: Value.ref (zad E a) :: st.map (zval E)))
  rw [zad_lt hlta hR.2.2.2.2.1, zad_lt hltb hR.2.2.2.2.1]
  have hS := zS_of hC hR hL hn.1
  have hlo : ((st.map (zval E)).map fun v => v.category).sum + (nativeFrameWords "java/lang/System" "arraycopy" 5 + 11) ≤ Rm.locals := by
    rw [zmapcat]
    have : nativeFrameWords "java/lang/System" "arraycopy" 5 ≤ 40 := by decide
    omega
  have hb1 : (Int32.ofInt sp).toNatClampNeg + (Int32.ofInt z).toNatClampNeg ≤ (F a).2.1 := by rw [z32_nat hsp0, z32_nat hz0]; omega
  have hb2 : (Int32.ofInt dp).toNatClampNeg + (Int32.ofInt z).toNatClampNeg ≤ (F b).2.1 := by rw [z32_nat hdp0, z32_nat hz0]; omega
  have hDne : ∀ q, q ≠ b → zrow D b (va_cpy (D a) (D b) sp.toNat dp.toNat z.toNat) q = D q := fun q hq => zrow_ne hq
  have hfin : ∀ (H1 : Heap) (locs1 : List Loc), va_P E.1 zcl (zws E F (zrow D b (va_cpy (D a) (D b) sp.toNat dp.toNat z.toNat)) n) H1 → zcok F (zrow D b (va_cpy (D a) (D b) sp.toNat dp.toNat z.toNat)) b → va_S (zA E) s.heap H1 locs1 → va_S (zA E) H H1 locs1 → W p l e Rm s m args below meth co H1 locs1 (n - n0) (sl - s0) Q (F0 m (pc + 3) rls (st.map (zval E))) := by
    intro H1 locs1 hP1 hck hS1 hS2
    refine zW_size fun hsz => ?_
    obtain ⟨r1, r2, r3, r4, r5, r6⟩ := hR
    dsimp only at r1 r4 r5 r6
    have hn2 : n0 ≤ n := hn.1
    refine hk hok5 p e Rm s m args below meth co H1 locs1 Q rls n0 s0 hC ⟨?_, hP1, fun q hq => ?_, fun q hq => ?_, r5, r6⟩ hS1.2.2 hl hn hq
    · have h5 := hS2.1
      show H1.size = zB E + n
      omega
    · rw [hS2.2.1 q (by omega) (fun h9 => by have : zB E ≤ q := h9; omega)]; exact r3 q hq
    · by_cases hqb : q = b
      · subst hqb; exact ⟨hck, (r4 q hq).2⟩
      · exact ⟨(zcok_congr (F := F) rfl (hDne q hqb)).mpr (r4 q hq).1, (r4 q hq).2⟩
  rcases hkd with rfl | rfl
  · have ea : (zws E F D n)[a]? = some (zB E + a, .inl (E.2.1 20, (F a).2.1, .inl (fun j => Int32.ofInt (D a j)))) := by rw [zws_get hlta, zarr20 ha]
    have eb : (zws E F D n)[b]? = some (zB E + b, .inl (E.2.1 20, (F b).2.1, .inl (fun j => Int32.ofInt (D b j)))) := by rw [zws_get hltb, zarr20 hb]
    have hS9 : va_S (zA E) H H locs := ⟨Nat.le_refl _, fun _ _ _ => rfl, hL⟩
    refine va_copyi (H0 := H) hx hbc (hml.trans hl.1.symm) hown (hts _ hwm) (hts _ wX_J10_arraycopy) (hts _ wS_J10_arraycopy) (hts _ wN_J10) hK.1 hR.2.1 (zws_D E F D n) hS9 a b 0 0 ea eb rfl rfl rfl (hng sp hsp0 h1.1) (hng dp hdp0 h1.2.1) (hng z hz0 h1.2.2.1) hb1 hb2 (fun _ _ => rfl) (by omega) hlo hi fun H1 locs1 hP1 hD1 hS1 => ?_
    rw [z32_nat hsp0, z32_nat hdp0, z32_nat hz0, zcpy_map] at hP1
    have e9 : zent E F (zrow D b (va_cpy (D a) (D b) sp.toNat dp.toNat z.toNat)) b = .inl (E.2.1 20, (F b).2.1, .inl (fun j => Int32.ofInt (va_cpy (D a) (D b) sp.toNat dp.toNat z.toNat j))) := by rw [zarr20 hb, zrow_self]
    rw [← e9, zws_set hDne] at hP1
    have hck : zcok F (zrow D b (va_cpy (D a) (D b) sp.toNat dp.toNat z.toNat)) b := (zok20 hb).mpr fun q => by
      rw [zrow_self]
      unfold va_cpy
      split
      · exact (zok20 ha).mp (hR.2.2.2.1 a hlta).1 _
      · exact (zok20 hb).mp (hR.2.2.2.1 b hltb).1 _
    exact hfin H1 locs1 hP1 hck ⟨Nat.le_trans hS.1 hS1.1, fun q h7 h8 => (hS1.2.1 q (Nat.lt_of_lt_of_le h7 hS.1) h8).trans (hS.2.1 q h7 h8), hS1.2.2⟩ hS1
  · have ea : (zws E F D n)[a]? = some (zB E + a, .inl (E.2.1 21, (F a).2.1, .inr (.inl (fun j => Int64.ofInt (D a j))))) := by rw [zws_get hlta, zarr21 ha]
    have eb : (zws E F D n)[b]? = some (zB E + b, .inl (E.2.1 21, (F b).2.1, .inr (.inl (fun j => Int64.ofInt (D b j))))) := by rw [zws_get hltb, zarr21 hb]
    have hS9 : va_S (zA E) H H locs := ⟨Nat.le_refl _, fun _ _ _ => rfl, hL⟩
    refine va_copyl (H0 := H) hx hbc (hml.trans hl.1.symm) hown (hts _ hwm) (hts _ wX_J10_arraycopy) (hts _ wS_J10_arraycopy) (hts _ wN_J10) hK.1 hR.2.1 (zws_D E F D n) hS9 a b 1 1 ea eb rfl rfl rfl (hng sp hsp0 h1.1) (hng dp hdp0 h1.2.1) (hng z hz0 h1.2.2.1) hb1 hb2 (fun _ _ => rfl) (by omega) hlo hi fun H1 locs1 hP1 hD1 hS1 => ?_
    rw [z32_nat hsp0, z32_nat hdp0, z32_nat hz0, zcpy_map] at hP1
    have e9 : zent E F (zrow D b (va_cpy (D a) (D b) sp.toNat dp.toNat z.toNat)) b = .inl (E.2.1 21, (F b).2.1, .inr (.inl (fun j => Int64.ofInt (va_cpy (D a) (D b) sp.toNat dp.toNat z.toNat j)))) := by rw [zarr21 hb, zrow_self]
    rw [← e9, zws_set hDne] at hP1
    have hck : zcok F (zrow D b (va_cpy (D a) (D b) sp.toNat dp.toNat z.toNat)) b := (zok21 hb).mpr fun q => by
      rw [zrow_self]
      unfold va_cpy
      split
      · exact (zok21 ha).mp (hR.2.2.2.1 a hlta).1 _
      · exact (zok21 hb).mp (hR.2.2.2.1 b hltb).1 _
    exact hfin H1 locs1 hP1 hck ⟨Nat.le_trans hS.1 hS1.1, fun q h7 h8 => (hS1.2.1 q (Nat.lt_of_lt_of_le h7 hS.1) h8).trans (hS.2.1 q h7 h8), hS1.2.2⟩ hS1
end ZX
