/-! ===== clone of an int array, casts, the paper's constructor ===== -/
section ZCl
variable {α : Type} {l : Launch} {E : zE} {d : Nat} {Y : zY} {pc : Nat} {ls : zLs} {st : List zV} {F : zFs} {D : zDa} {n sl : Nat} {cv : α → zRes} {x : Option α}
theorem zO_castI {a j : Nat} (hi : decode Y.2.1 pc = .ok (.checkcast j, 3)) (hw : Cond.classLink Y.1.cls j "[I" ∈ zgood) (ha : (F a).1 = 20) (k : zO l E d Y (pc + 3) ls (zR a :: st) (F, D, n, sl) cv x) : zO l E d Y pc ls (zR a :: st) (F, D, n, sl) cv x := zO_go (fun p e Rm s m args below meth co H locs cells slots Q rls n0 hC hR hL hn hok hl kk => by
  obtain ⟨hx, hb, hml, hown, hnm, hts, hK, hf1, hf2, hT, hh1, hh2⟩ := id hC
  have hlt := zkind_lt hR ha (by omega)
  have e0 : (zws E F D n)[a]? = some (zB E + a, .inl (E.2.1 20, (F a).2.1, .inl (fun j => Int32.ofInt (D a j)))) := by rw [zws_get hlt, zarr20 ha]
  have hkk := kk rls hok hl
  rw [List.map_cons, show zval E (zR a) = Value.ref (zB E + a) from congrArg Value.ref (zad_lt hlt hR.2.2.2.2.1)] at hkk ⊢
  exact va_castA hx hb hown (hts _ hw) hR.2.1 a e0 ((hK.1.2 0 _ rfl).2) hi hkk) k
theorem zO_clone {a j : Nat} (hi : decode Y.2.1 pc = .ok (.invokevirtual j, 3)) (hwm : Cond.methodLink Y.1.cls j ⟨"[I", "clone", "()Ljava/lang/Object;"⟩ ∈ zgood) (ha : (F a).1 = 20) (hn9 : n < 900000) (hw8 : zwid st ≤ 8) (k : zO l E d Y (pc + 3) ls (zR n :: st) (znew F n (20, (F a).2.1, fun _ => 0), zrow D n (D a), n + 1, sl + (F a).2.1) cv x) : zO l E d Y pc ls (zR a :: st) (F, D, n, sl) cv x := by
  intro r hr
  obtain ⟨hm, hk⟩ := k r hr
  dsimp only at hm hk
  refine ⟨⟨by dsimp only; omega, by dsimp only; omega⟩, fun hok p e Rm s m args below meth co H locs Q rls n0 s0 hC hR hL hl hn hq => ?_⟩
  obtain ⟨hx, hbc, hml, hown, hnm0, hts, hK, hf1, hf2, hT, hh1, hh2⟩ := id hC
  have hlta := zkind_lt hR ha (by omega)
  have hlen : (F a).2.1 ≤ 1000000 := (hR.2.2.2.1 a hlta).2
  have hn2 : n0 ≤ n ∧ s0 ≤ sl ∧ (cv r).2.2.2.1 - n0 ≤ Rm.cells ∧ (cv r).2.2.2.2 - s0 ≤ Rm.slots := hn
  have e0 : (zws E F D n)[a]? = some (zB E + a, .inl (E.2.1 20, (F a).2.1, .inl (fun j => Int32.ofInt (D a j)))) := by rw [zws_get hlta, zarr20 ha]
  show W p l e Rm s m args below meth co H locs (n - n0) (sl - s0) Q (F0 m pc rls (Value.ref (zad E a) :: st.map (zval E)))
  rw [zad_lt hlta hR.2.2.2.2.1]
  have hS := zS_of hC hR hL hn.1
  have hlo : ((st.map (zval E)).map fun v => v.category).sum + 14 ≤ Rm.locals := by rw [zmapcat]; omega
  refine va_clone (H0 := s.heap) (A := zA E) hx hbc (hml.trans hl.1.symm) hown (hts _ hwm) (hts _ wE_clone) (hts _ wX_Ob_clone) (hts _ wI_Ob_clone) (hts _ wV_AI_clone) (hK.2.1 _ (by simp [znest])) hK.1 hR.2.1 (zws_D E F D n) hS (fun q hq => by show zB E ≤ q; omega) a 0 e0 rfl ((hK.1.2 0 _ rfl).2) (fun i v hv => ?_) (by omega) hlo (by omega) (by show sl - s0 + (F a).2.1 ≤ Rm.slots; omega) hi fun q H1 hK1 hP1 hD1 hS1 => zW_size fun hsz => ?_
  · rw [vp_cell_i] at hv
    have hi2 : i < (arrV (E.2.1 20) (F a).2.1 (fun j => Value.int (Int32.ofInt (D a j)))).slots.size := (Array.getElem?_eq_some_iff.mp hv).1
    rw [arrV_size] at hi2
    rw [arrV_read _ _ hi2] at hv
    cases hv
    rfl
  · have hlw : (zws E F D n).length = n := by simp [zws]
    have eq0 : (zws E F D n ++ [(q, .inl (E.2.1 20, (F a).2.1, .inl (fun j => Int32.ofInt (D a j))))])[n]? = some (q, .inl (E.2.1 20, (F a).2.1, .inl (fun j => Int32.ofInt (D a j)))) := by
      rw [List.getElem?_append_right (by omega), hlw]; simp
    have eqk : ∀ k, k < n → (zws E F D n ++ [(q, .inl (E.2.1 20, (F a).2.1, .inl (fun j => Int32.ofInt (D a j))))])[k]? = some (zB E + k, zent E F D k) := fun k hk => by
      rw [List.getElem?_append_left (by omega), zws_get hk]
    have hqlt := (hP1 n _ eq0).lt
    have hqA : zB E ≤ q := hD1.2 n _ eq0
    have hqne : ∀ k, k < n → q ≠ zB E + k := fun k hk h9 => by
      have := hD1.1 n k _ _ eq0 (eqk k hk) h9
      omega
    dsimp only at hqlt
    have hq9 : q = zB E + n := by
      rcases Nat.lt_or_ge q (zB E + n) with h9 | h9
      · exact absurd (show q = zB E + (q - zB E) by omega) (hqne (q - zB E) (by omega))
      · omega
    subst hq9
    have hk1 : (znew F n (20, (F a).2.1, fun _ => 0) n).1 = 20 := by rw [znew_self]
    have hokn : zoks ls (zR n :: st) := hok.tl.cons (v := zR n) trivial
    obtain ⟨r1, r2, r3, r4, r5, r6⟩ := hR
    dsimp only at r1 r2 r4 r5 r6
    have hz := hk hokn p e Rm s m args below meth co H1 locs Q rls n0 s0 hC ⟨?_, fun kq y hy => ?_, fun q hq => ?_, fun b hb => ?_, hn9, fun b hb => ?_⟩ hL hl ⟨by omega, by omega, hn2.2.2.1, hn2.2.2.2⟩ hq
    · rw [List.map_cons, show zval E (zR n) = Value.ref (zB E + n) from congrArg Value.ref (zad_lt (Nat.lt_succ_self n) (by omega))] at hz
      rw [show n - n0 + 1 = n + 1 - n0 by omega, show sl - s0 + ((F a).2.1, (Sum.inl fun j => Int32.ofInt (D a j) : (Nat → Int32) ⊕ (Nat → Int64) ⊕ (Nat → UInt32) ⊕ (Nat → UInt64) ⊕ (Nat → Option Nat))).1 = sl + (F a).2.1 - s0 by show sl - s0 + (F a).2.1 = _; omega]
      exact hz
    · show H1.size = zB E + (n + 1)
      have : s.heap.size = zB E + n0 := hh1
      omega
    · obtain ⟨hkq, rfl⟩ := zws_some hy
      dsimp only at hkq ⊢
      by_cases hkn : kq = n
      · subst hkn
        rw [zarr20 hk1, znew_self, zrow_self]
        exact hP1 kq _ eq0
      · have hk3 : kq < n := by omega
        rw [zent_congr (F := F) (D := D) (znew_ne hkn) (zrow_ne hkn)]
        exact hP1 kq _ (eqk kq hk3)
    · rw [hS1.2.1 q (by omega) (fun h9 => by have : zB E ≤ q := h9; omega)]; exact hh2 q hq
    · dsimp only at hb ⊢
      by_cases hbn : b = n
      · subst hbn
        refine ⟨(zok20 hk1).mpr fun j => ?_, by rw [znew_self]; exact hlen⟩
        rw [zrow_self]; exact (zok20 ha).mp (r4 a hlta).1 j
      · rw [znew_ne hbn]
        exact ⟨(zcok_congr (znew_ne hbn) (zrow_ne hbn)).mpr (r4 b (by omega)).1, (r4 b (by omega)).2⟩
    · dsimp only at hb ⊢
      rw [znew_ne (by omega)]; exact r6 b (by omega)
end ZCl
theorem zG_fin {F : zFs} {a k : Nat} {z : Int} (h : zG F) (hn : 126 ≤ a) : zG (zfin F a k z) := by
  refine ⟨fun r hr => ?_, fun r hr => ?_⟩
  · have := zgT_lt r hr
    rw [zfin_ne (by omega)]; exact h.1 r hr
  · have := zgR_lt r hr
    rw [zfin_ne (by omega)]; exact h.2 r hr
section ZQ
variable {α : Type} {l : Launch} {E : zE} {d : Nat} {Y : zY} {pc : Nat} {ls : zLs} {st : List zV} {M : zM} {cv : α → zRes} {x : Option α} {u0 u1 u2 u3 u4 : zV} {z : Int}
theorem zO_q0 (h : 0 ≤ z) (k : zO l E d Y pc ls (zR z.toNat :: st) M cv x) : zO l E d Y pc ls (zq z :: st) M cv x := by rw [zq_pos h]; exact k
theorem zO_q1 (h : 0 ≤ z) (k : zO l E d Y pc ls (u0 :: zR z.toNat :: st) M cv x) : zO l E d Y pc ls (u0 :: zq z :: st) M cv x := by rw [zq_pos h]; exact k
theorem zO_q2 (h : 0 ≤ z) (k : zO l E d Y pc ls (u0 :: u1 :: zR z.toNat :: st) M cv x) : zO l E d Y pc ls (u0 :: u1 :: zq z :: st) M cv x := by rw [zq_pos h]; exact k
theorem zO_q3 (h : 0 ≤ z) (k : zO l E d Y pc ls (u0 :: u1 :: u2 :: zR z.toNat :: st) M cv x) : zO l E d Y pc ls (u0 :: u1 :: u2 :: zq z :: st) M cv x := by rw [zq_pos h]; exact k
theorem zO_q4 (h : 0 ≤ z) (k : zO l E d Y pc ls (u0 :: u1 :: u2 :: u3 :: zR z.toNat :: st) M cv x) : zO l E d Y pc ls (u0 :: u1 :: u2 :: u3 :: zq z :: st) M cv x := by rw [zq_pos h]; exact k
end ZQ
theorem zMet_cast {l : Launch} {E : zE} {d d' : Nat} {Y : zY} {as : List zV} {M : zM} {R : zRes} (h : d = d') (k : zMet l E d Y as M R) : zMet l E d' Y as M R := h ▸ k
