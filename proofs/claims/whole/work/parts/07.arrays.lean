/-! ===== arrays, new cells ===== -/
section ZA
variable {α : Type} {l : Launch} {E : zE} {d : Nat} {Y : zY} {pc : Nat} {ls : zLs} {st : List zV} {F : zFs} {D : zDa} {n sl : Nat} {cv : α → zRes} {x : Option α}
theorem zarr20 {a : Nat} (h : (F a).1 = 20) : zent E F D a = .inl (E.2.1 20, (F a).2.1, .inl (fun j => Int32.ofInt (D a j))) := by unfold zent; rw [h]; rfl
theorem zarr21 {a : Nat} (h : (F a).1 = 21) : zent E F D a = .inl (E.2.1 21, (F a).2.1, .inr (.inl (fun j => Int64.ofInt (D a j)))) := by unfold zent; rw [h]; rfl
theorem zarr22 {a : Nat} (h : (F a).1 = 22) : zent E F D a = .inl (E.2.1 22, (F a).2.1, .inl (fun j => Int32.ofInt (D a j))) := by unfold zent; rw [h]; rfl
theorem zarr23 {a : Nat} (h : (F a).1 = 23) : zent E F D a = .inl (E.2.1 23, (F a).2.1, .inl (fun j => Int32.ofInt (D a j))) := by unfold zent; rw [h]; rfl
theorem zarr24 {a k : Nat} (h : (F a).1 = k) (hk : k = 24 ∨ k = 25) : zent E F D a = .inl (E.2.1 k, (F a).2.1, .inr (.inr (.inr (.inr (fun j => zro E (D a j)))))) := by
  unfold zent; rcases hk with rfl | rfl <;> rw [h] <;> rfl
theorem zok20 {a : Nat} (h : (F a).1 = 20) : zcok F D a ↔ ∀ j, -2147483648 ≤ D a j ∧ D a j ≤ 2147483647 := by unfold zcok; rw [h]; exact Iff.rfl
theorem zok21 {a : Nat} (h : (F a).1 = 21) : zcok F D a ↔ ∀ j, -9223372036854775808 ≤ D a j ∧ D a j ≤ 9223372036854775807 := by unfold zcok; rw [h]; exact Iff.rfl
theorem zok22 {a : Nat} (h : (F a).1 = 22) : zcok F D a ↔ ∀ j, -128 ≤ D a j ∧ D a j ≤ 127 := by unfold zcok; rw [h]; exact Iff.rfl
theorem zok23 {a : Nat} (h : (F a).1 = 23) : zcok F D a ↔ ∀ j, D a j = 0 ∨ D a j = 1 := by unfold zcok; rw [h]; exact Iff.rfl
theorem zok24 {a k : Nat} (h : (F a).1 = k) (hk : k = 24 ∨ k = 25) : zcok F D a := by unfold zcok; rcases hk with rfl | rfl <;> rw [h] <;> trivial
theorem zO_iald {a : Nat} {j : Int} (hi : decode Y.2.1 pc = .ok (.iaload, 1)) (ha : (F a).1 = 20) (hj : 0 ≤ j ∧ j < (F a).2.1) (k : zO l E d Y (pc + 1) ls (zI (D a j.toNat) :: st) (F, D, n, sl) cv x) : zO l E d Y pc ls (zI j :: zR a :: st) (F, D, n, sl) cv x := zO_go (fun p e Rm s m args below meth co H locs cells slots Q rls n0 hC hR hL hn hok hl kk => by
  obtain ⟨hx, hb, hml, hown, hnm, hts, hK, hf1, hf2, hT, hh1, hh2⟩ := id hC
  have hlt := zkind_lt hR ha (by omega)
  have hj0 : -2147483648 ≤ j ∧ j ≤ 2147483647 := hok.hd
  have e0 : (zws E F D n)[a]? = some (zB E + a, .inl (E.2.1 20, (F a).2.1, .inl (fun j => Int32.ofInt (D a j)))) := by rw [zws_get hlt, zarr20 ha]
  show W p l e Rm s m args below meth co H locs cells slots Q (F0 m pc rls (Value.int (Int32.ofInt j) :: Value.ref (zad E a) :: st.map (zval E)))
  rw [zad_lt hlt hR.2.2.2.2.1]
  refine va_iald hx hb hK.1 hR.2.1 a 0 e0 rfl (z32_in hj0 hj) hi ?_
  rw [z32_nat hj0]
  exact kk rls (hok.tl.tl.cons ((zok20 ha).mp (hR.2.2.2.1 a hlt).1 _)) hl) k
theorem zO_lald {a : Nat} {j : Int} (hi : decode Y.2.1 pc = .ok (.laload, 1)) (ha : (F a).1 = 21) (hj : 0 ≤ j ∧ j < (F a).2.1) (k : zO l E d Y (pc + 1) ls (zL (D a j.toNat) :: st) (F, D, n, sl) cv x) : zO l E d Y pc ls (zI j :: zR a :: st) (F, D, n, sl) cv x := zO_go (fun p e Rm s m args below meth co H locs cells slots Q rls n0 hC hR hL hn hok hl kk => by
  obtain ⟨hx, hb, hml, hown, hnm, hts, hK, hf1, hf2, hT, hh1, hh2⟩ := id hC
  have hlt := zkind_lt hR ha (by omega)
  have hj0 : -2147483648 ≤ j ∧ j ≤ 2147483647 := hok.hd
  have e0 : (zws E F D n)[a]? = some (zB E + a, .inl (E.2.1 21, (F a).2.1, .inr (.inl (fun j => Int64.ofInt (D a j))))) := by rw [zws_get hlt, zarr21 ha]
  show W p l e Rm s m args below meth co H locs cells slots Q (F0 m pc rls (Value.int (Int32.ofInt j) :: Value.ref (zad E a) :: st.map (zval E)))
  rw [zad_lt hlt hR.2.2.2.2.1]
  refine va_lald hx hb hK.1 hR.2.1 a 1 e0 rfl (z32_in hj0 hj) hi ?_
  rw [z32_nat hj0]
  exact kk rls (hok.tl.tl.cons ((zok21 ha).mp (hR.2.2.2.1 a hlt).1 _)) hl) k
theorem zO_bald {a : Nat} {j : Int} (hi : decode Y.2.1 pc = .ok (.baload, 1)) (ha : (F a).1 = 22) (hj : 0 ≤ j ∧ j < (F a).2.1) (k : zO l E d Y (pc + 1) ls (zI (D a j.toNat) :: st) (F, D, n, sl) cv x) : zO l E d Y pc ls (zI j :: zR a :: st) (F, D, n, sl) cv x := zO_go (fun p e Rm s m args below meth co H locs cells slots Q rls n0 hC hR hL hn hok hl kk => by
  obtain ⟨hx, hb, hml, hown, hnm, hts, hK, hf1, hf2, hT, hh1, hh2⟩ := id hC
  have hlt := zkind_lt hR ha (by omega)
  have hj0 : -2147483648 ≤ j ∧ j ≤ 2147483647 := hok.hd
  have e0 : (zws E F D n)[a]? = some (zB E + a, .inl (E.2.1 22, (F a).2.1, .inl (fun j => Int32.ofInt (D a j)))) := by rw [zws_get hlt, zarr22 ha]
  show W p l e Rm s m args below meth co H locs cells slots Q (F0 m pc rls (Value.int (Int32.ofInt j) :: Value.ref (zad E a) :: st.map (zval E)))
  rw [zad_lt hlt hR.2.2.2.2.1]
  refine va_bald hx hb hK.1 hR.2.1 a 2 e0 rfl (z32_in hj0 hj) hi ?_
  rw [z32_nat hj0]
  have hv : -128 ≤ D a j.toNat ∧ D a j.toNat ≤ 127 := (zok22 ha).mp (hR.2.2.2.1 a hlt).1 j.toNat
  exact kk rls (hok.tl.tl.cons (v := zI (D a j.toNat)) ⟨by omega, by omega⟩) hl) k
theorem zO_zald {a : Nat} {j : Int} (hi : decode Y.2.1 pc = .ok (.baload, 1)) (ha : (F a).1 = 23) (hj : 0 ≤ j ∧ j < (F a).2.1) (k : zO l E d Y (pc + 1) ls (zI (D a j.toNat) :: st) (F, D, n, sl) cv x) : zO l E d Y pc ls (zI j :: zR a :: st) (F, D, n, sl) cv x := zO_go (fun p e Rm s m args below meth co H locs cells slots Q rls n0 hC hR hL hn hok hl kk => by
  obtain ⟨hx, hb, hml, hown, hnm, hts, hK, hf1, hf2, hT, hh1, hh2⟩ := id hC
  have hlt := zkind_lt hR ha (by omega)
  have hj0 : -2147483648 ≤ j ∧ j ≤ 2147483647 := hok.hd
  have e0 : (zws E F D n)[a]? = some (zB E + a, .inl (E.2.1 23, (F a).2.1, .inl (fun j => Int32.ofInt (D a j)))) := by rw [zws_get hlt, zarr23 ha]
  show W p l e Rm s m args below meth co H locs cells slots Q (F0 m pc rls (Value.int (Int32.ofInt j) :: Value.ref (zad E a) :: st.map (zval E)))
  rw [zad_lt hlt hR.2.2.2.2.1]
  refine va_zald hx hb hK.1 hR.2.1 a 3 e0 rfl (z32_in hj0 hj) hi ?_
  rw [z32_nat hj0]
  have hv : D a j.toNat = 0 ∨ D a j.toNat = 1 := (zok23 ha).mp (hR.2.2.2.1 a hlt).1 j.toNat
  exact kk rls (hok.tl.tl.cons (v := zI (D a j.toNat)) ⟨by omega, by omega⟩) hl) k
theorem zO_alen {a kd : Nat} (hi : decode Y.2.1 pc = .ok (.arraylength, 1)) (ha : (F a).1 = kd) (hk : kd = 20 ∨ kd = 21 ∨ kd = 22 ∨ kd = 23) (k : zO l E d Y (pc + 1) ls (zI ((F a).2.1 : Int) :: st) (F, D, n, sl) cv x) : zO l E d Y pc ls (zR a :: st) (F, D, n, sl) cv x := zO_go (fun p e Rm s m args below meth co H locs cells slots Q rls n0 hC hR hL hn hok hl kk => by
  obtain ⟨hx, hb, hml, hown, hnm, hts, hK, hf1, hf2, hT, hh1, hh2⟩ := id hC
  have hlt := zkind_lt hR ha (by omega)
  have hlen := (hR.2.2.2.1 a hlt).2
  dsimp only at hlen
  show W p l e Rm s m args below meth co H locs cells slots Q (F0 m pc rls (Value.ref (zad E a) :: st.map (zval E)))
  rw [zad_lt hlt hR.2.2.2.2.1]
  have hkk := kk rls (hok.tl.cons (v := zI ((F a).2.1 : Int)) ⟨by omega, by omega⟩) hl
  rcases hk with rfl | rfl | rfl | rfl
  · exact va_alen hx hb hK.1 hR.2.1 a 0 (by rw [zws_get hlt, zarr20 ha]) rfl (v := Int32.ofInt ((F a).2.1 : Int)) Int32.ofInt_eq_ofNat.symm hi hkk
  · exact va_alen hx hb hK.1 hR.2.1 a 1 (by rw [zws_get hlt, zarr21 ha]) rfl (v := Int32.ofInt ((F a).2.1 : Int)) Int32.ofInt_eq_ofNat.symm hi hkk
  · exact va_alen hx hb hK.1 hR.2.1 a 2 (by rw [zws_get hlt, zarr22 ha]) rfl (v := Int32.ofInt ((F a).2.1 : Int)) Int32.ofInt_eq_ofNat.symm hi hkk
  · exact va_alen hx hb hK.1 hR.2.1 a 3 (by rw [zws_get hlt, zarr23 ha]) rfl (v := Int32.ofInt ((F a).2.1 : Int)) Int32.ofInt_eq_ofNat.symm hi hkk) k
theorem zloc {E : zE} {locs : List Loc} {a k : Nat} (h : ∀ q ∈ locs, zA E q.base) : ∀ q ∈ locs ++ [(⟨zB E + a, k⟩ : Loc)], zA E q.base := by
  intro q hq
  rcases List.mem_append.mp hq with h1 | h1
  · exact h q h1
  · rw [List.mem_singleton] at h1; subst h1; exact Nat.le_add_right _ _
theorem zO_iast {a : Nat} {j z : Int} (hi : decode Y.2.1 pc = .ok (.iastore, 1)) (ha : (F a).1 = 20) (hj : 0 ≤ j ∧ j < (F a).2.1) (k : zO l E d Y (pc + 1) ls st (F, zwr D a j.toNat z, n, sl) cv x) : zO l E d Y pc ls (zI z :: zI j :: zR a :: st) (F, D, n, sl) cv x := zO_mem (M' := (F, zwr D a j.toNat z, n, sl)) rfl (fun p e Rm s m args below meth co H locs cells slots Q rls n0 hC hR hL hn hok hsz kk => by
  obtain ⟨hx, hb, hml, hown, hnm0, hts, hK, hf1, hf2, hT, hh1, hh2⟩ := id hC
  have hlt := zkind_lt hR ha (by omega)
  have hz0 : -2147483648 ≤ z ∧ z ≤ 2147483647 := hok.hd
  have hj0 : -2147483648 ≤ j ∧ j ≤ 2147483647 := hok.tl.hd
  have hat := hR.2.1 a _ (zws_get hlt)
  rw [zarr20 ha] at hat
  show W p l e Rm s m args below meth co H locs cells slots Q (F0 m pc rls (Value.int (Int32.ofInt z) :: Value.int (Int32.ofInt j) :: Value.ref (zad E a) :: st.map (zval E)))
  rw [zad_lt hlt hR.2.2.2.2.1]
  refine W.iast hx hb hat ((hK.1.2 0 _ rfl).1 (F a).2.1 (fun j => .int (Int32.ofInt (D a j)))) (fun q => by cases q) (by show ¬ (Int32.ofInt j < 0 ∨ (arrV _ _ _).slots.size ≤ _); rw [arrV_size]; exact z32_in hj0 hj) rfl rfl hi fun H1 e1 z1 oq => ?_
  refine kk H1 _ hok.tl.tl.tl (zRep_set hR hlt ?_ z1 oq (fun b hb => zwr_ne hb) ((zok20 ha).mpr fun q => ?_)) (zloc hL)
  · rw [zarr20 ha]
    show H1[zB E + a]? = some (vp_cell _ _)
    rw [e1, vp_cell_i, vp_cell_i, arrV_store]
    congr 2
    funext q
    rw [z32_nat hj0]
    by_cases hq : q = j.toNat
    · subst hq; simp [updV, zwr]
    · simp [updV, zwr, hq]
  · have := (zok20 ha).mp (hR.2.2.2.1 a hlt).1 q
    simp only [zwr, if_pos]
    split
    · exact hz0
    · exact this) k
theorem zO_last {a : Nat} {j z : Int} (hi : decode Y.2.1 pc = .ok (.lastore, 1)) (ha : (F a).1 = 21) (hj : 0 ≤ j ∧ j < (F a).2.1) (k : zO l E d Y (pc + 1) ls st (F, zwr D a j.toNat z, n, sl) cv x) : zO l E d Y pc ls (zL z :: zI j :: zR a :: st) (F, D, n, sl) cv x := zO_mem (M' := (F, zwr D a j.toNat z, n, sl)) rfl (fun p e Rm s m args below meth co H locs cells slots Q rls n0 hC hR hL hn hok hsz kk => by
  obtain ⟨hx, hb, hml, hown, hnm0, hts, hK, hf1, hf2, hT, hh1, hh2⟩ := id hC
  have hlt := zkind_lt hR ha (by omega)
  have hz0 : -9223372036854775808 ≤ z ∧ z ≤ 9223372036854775807 := hok.hd
  have hj0 : -2147483648 ≤ j ∧ j ≤ 2147483647 := hok.tl.hd
  have hat := hR.2.1 a _ (zws_get hlt)
  rw [zarr21 ha] at hat
  show W p l e Rm s m args below meth co H locs cells slots Q (F0 m pc rls (Value.long (Int64.ofInt z) :: Value.int (Int32.ofInt j) :: Value.ref (zad E a) :: st.map (zval E)))
  rw [zad_lt hlt hR.2.2.2.2.1]
  refine W.last hx hb hat ((hK.1.2 1 _ rfl).1 (F a).2.1 (fun j => .long (Int64.ofInt (D a j)))) (fun q => by cases q) (by show ¬ (Int32.ofInt j < 0 ∨ (arrV _ _ _).slots.size ≤ _); rw [arrV_size]; exact z32_in hj0 hj) rfl rfl hi fun H1 e1 z1 oq => ?_
  refine kk H1 _ hok.tl.tl.tl (zRep_set hR hlt ?_ z1 oq (fun b hb => zwr_ne hb) ((zok21 ha).mpr fun q => ?_)) (zloc hL)
  · rw [zarr21 ha]
    show H1[zB E + a]? = some (vp_cell _ _)
    rw [e1, vp_cell_l, vp_cell_l, arrV_store]
    congr 2
    funext q
    rw [z32_nat hj0]
    by_cases hq : q = j.toNat
    · subst hq; simp [updV, zwr]
    · simp [updV, zwr, hq]
  · have := (zok21 ha).mp (hR.2.2.2.1 a hlt).1 q
    simp only [zwr, if_pos]
    split
    · exact hz0
    · exact this) k
theorem zO_bast {a : Nat} {j z : Int} (hi : decode Y.2.1 pc = .ok (.bastore, 1)) (ha : (F a).1 = 22) (hj : 0 ≤ j ∧ j < (F a).2.1) (hz : -128 ≤ z ∧ z ≤ 127) (k : zO l E d Y (pc + 1) ls st (F, zwr D a j.toNat z, n, sl) cv x) : zO l E d Y pc ls (zI z :: zI j :: zR a :: st) (F, D, n, sl) cv x := zO_mem (M' := (F, zwr D a j.toNat z, n, sl)) rfl (fun p e Rm s m args below meth co H locs cells slots Q rls n0 hC hR hL hn hok hsz kk => by
  obtain ⟨hx, hb, hml, hown, hnm0, hts, hK, hf1, hf2, hT, hh1, hh2⟩ := id hC
  have hlt := zkind_lt hR ha (by omega)
  have hj0 : -2147483648 ≤ j ∧ j ≤ 2147483647 := hok.tl.hd
  have hat := hR.2.1 a _ (zws_get hlt)
  rw [zarr22 ha] at hat
  show W p l e Rm s m args below meth co H locs cells slots Q (F0 m pc rls (Value.int (Int32.ofInt z) :: Value.int (Int32.ofInt j) :: Value.ref (zad E a) :: st.map (zval E)))
  rw [zad_lt hlt hR.2.2.2.2.1]
  have hnr : narrow .byte (.int (Int32.ofInt z)) = .int (Int32.ofInt z) := (znarrow (t := .byte) (E := E) hz).1
  refine W.bast hx hb hat ((hK.1.2 2 _ rfl).1 (F a).2.1 (fun j => .int (Int32.ofInt (D a j)))) (fun q => by cases q) (by show ¬ (Int32.ofInt j < 0 ∨ (arrV _ _ _).slots.size ≤ _); rw [arrV_size]; exact z32_in hj0 hj) rfl rfl hi fun H1 e1 z1 oq => ?_
  refine kk H1 _ hok.tl.tl.tl (zRep_set hR hlt ?_ z1 oq (fun b hb => zwr_ne hb) ((zok22 ha).mpr fun q => ?_)) (zloc hL)
  · rw [zarr22 ha]
    show H1[zB E + a]? = some (vp_cell _ _)
    rw [e1, hnr, vp_cell_i, vp_cell_i, arrV_store]
    congr 2
    funext q
    rw [z32_nat hj0]
    by_cases hq : q = j.toNat
    · subst hq; simp [updV, zwr]
    · simp [updV, zwr, hq]
  · have := (zok22 ha).mp (hR.2.2.2.1 a hlt).1 q
    simp only [zwr, if_pos]
    split
    · exact hz
    · exact this) k
theorem zO_zast {a : Nat} {j z : Int} (hi : decode Y.2.1 pc = .ok (.bastore, 1)) (ha : (F a).1 = 23) (hj : 0 ≤ j ∧ j < (F a).2.1) (hz : z = 0 ∨ z = 1) (k : zO l E d Y (pc + 1) ls st (F, zwr D a j.toNat z, n, sl) cv x) : zO l E d Y pc ls (zI z :: zI j :: zR a :: st) (F, D, n, sl) cv x := zO_mem (M' := (F, zwr D a j.toNat z, n, sl)) rfl (fun p e Rm s m args below meth co H locs cells slots Q rls n0 hC hR hL hn hok hsz kk => by
  obtain ⟨hx, hb, hml, hown, hnm0, hts, hK, hf1, hf2, hT, hh1, hh2⟩ := id hC
  have hlt := zkind_lt hR ha (by omega)
  have hj0 : -2147483648 ≤ j ∧ j ≤ 2147483647 := hok.tl.hd
  have hat := hR.2.1 a _ (zws_get hlt)
  rw [zarr23 ha] at hat
  show W p l e Rm s m args below meth co H locs cells slots Q (F0 m pc rls (Value.int (Int32.ofInt z) :: Value.int (Int32.ofInt j) :: Value.ref (zad E a) :: st.map (zval E)))
  rw [zad_lt hlt hR.2.2.2.2.1]
  have hnr : narrow .boolean (.int (Int32.ofInt z)) = .int (Int32.ofInt z) := (znarrow (t := .boolean) (E := E) hz).1
  refine W.zast hx hb hat ((hK.1.2 3 _ rfl).1 (F a).2.1 (fun j => .int (Int32.ofInt (D a j)))) (fun q => by cases q) (by show ¬ (Int32.ofInt j < 0 ∨ (arrV _ _ _).slots.size ≤ _); rw [arrV_size]; exact z32_in hj0 hj) rfl rfl hi fun H1 e1 z1 oq => ?_
  refine kk H1 _ hok.tl.tl.tl (zRep_set hR hlt ?_ z1 oq (fun b hb => zwr_ne hb) ((zok23 ha).mpr fun q => ?_)) (zloc hL)
  · rw [zarr23 ha]
    show H1[zB E + a]? = some (vp_cell _ _)
    rw [e1, hnr, vp_cell_i, vp_cell_i, arrV_store]
    congr 2
    funext q
    rw [z32_nat hj0]
    by_cases hq : q = j.toNat
    · subst hq; simp [updV, zwr]
    · simp [updV, zwr, hq]
  · have := (zok23 ha).mp (hR.2.2.2.1 a hlt).1 q
    simp only [zwr, if_pos]
    split
    · exact hz
    · exact this) k
end ZA
