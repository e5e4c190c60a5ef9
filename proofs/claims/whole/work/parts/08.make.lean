/-! ===== new cells, final fields, what is given at the start ===== -/
def znew (F : zFs) (a : Nat) (q : Nat × Nat × (Nat → Int)) : zFs := fun b => if b = a then q else F b
def zdf (c k : Nat) : Int := match zty c k with
  | .object _ => -1
  | .array _ => -1
  | _ => 0
theorem zRep_new {E : zE} {F F' : zFs} {D D' : zDa} {n sl w : Nat} {H H' : Heap} (hR : zRep E (F, D, n, sl) H) (hn : n < 900000) (hat : va_at E.1 zcl (zB E + n, zent E F' D' n) H') (hsz : H'.size = zB E + n + 1) (ho : ∀ q : Nat, q < zB E + n → H'[q]? = H[q]?) (hF : ∀ b, b ≠ n → F' b = F b) (hD : ∀ b, b ≠ n → D' b = D b) (hok : zcok F' D' n ∧ (F' n).2.1 ≤ 1000000) : zRep E (F', D', n + 1, sl + w) H' := by
  obtain ⟨h1, h2, h3, h4, h5, h6⟩ := hR
  dsimp only at h1 h2 h4 h5 h6
  refine ⟨by rw [hsz]; rfl, fun k q hq => ?_, fun q hq => ?_, fun b hb => ?_, hn, fun b hb => ?_⟩
  · obtain ⟨hk, rfl⟩ := zws_some hq
    by_cases hka : k = n
    · subst hka; exact hat
    · have hk2 : k < n := by dsimp only at hk; omega
      have hz := h2 k _ (zws_get hk2)
      rw [zent_congr (hF k hka) (hD k hka)]
      exact hz.kept (ho _ (by show zB E + k < zB E + n; omega))
  · rw [ho q (by omega)]; exact h3 q hq
  · by_cases hba : b = n
    · subst hba; exact hok
    · have hb2 : b < n := by dsimp only at hb; omega
      dsimp only
      rw [hF b hba]
      exact ⟨(zcok_congr (hF b hba) (hD b hba)).mpr (h4 b hb2).1, (h4 b hb2).2⟩
  · have hb2 : n + 1 ≤ b := hb
    dsimp only
    rw [hF b (by omega)]; exact h6 b (by omega)
theorem zrow_self {D : zDa} {a : Nat} {r : Nat → Int} : zrow D a r a = r := by simp [zrow]
theorem zrow_ne {D : zDa} {a b : Nat} {r : Nat → Int} (h : b ≠ a) : zrow D a r b = D b := by simp [zrow, h]
theorem znew_self {F : zFs} {a : Nat} {q : Nat × Nat × (Nat → Int)} : znew F a q a = q := by simp [znew]
theorem znew_ne {F : zFs} {a b : Nat} {q : Nat × Nat × (Nat → Int)} (h : b ≠ a) : znew F a q b = F b := by simp [znew, h]
theorem zdf_ok (c k : Nat) (h : zty c k = .int ∨ zty c k = .boolean ∨ zty c k = .byte ∨ zty c k = .long ∨ (∃ t, zty c k = .object t) ∨ ∃ t, zty c k = .array t) : zfok (zty c k) (zdf c k) := by
  unfold zdf
  rcases h with h | h | h | h | ⟨t, h⟩ | ⟨t, h⟩ <;> rw [h] <;> simp [zfok]
theorem zdf_val (E : zE) (c k : Nat) (h : zty c k = .int ∨ zty c k = .boolean ∨ zty c k = .byte ∨ zty c k = .long ∨ (∃ t, zty c k = .object t) ∨ ∃ t, zty c k = .array t) : defaultValue (zty c k) = zval E (zdec (zty c k) (zdf c k)) := by
  unfold zdf
  rcases h with h | h | h | h | ⟨t, h⟩ | ⟨t, h⟩ <;> rw [h] <;> simp [zdec, zq, zval, defaultValue]
section ZN
variable {α : Type} {l : Launch} {E : zE} {d : Nat} {Y : zY} {pc : Nat} {ls : zLs} {st : List zV} {F : zFs} {D : zDa} {n sl : Nat} {cv : α → zRes} {x : Option α}
theorem zO_newo {c j : Nat} {C : String} (hi : decode Y.2.1 pc = .ok (.new j, 3)) (hw : Cond.classLink Y.1.cls j C ∈ zgood) (hw2 : Cond.instantiable C (zfn c) ∈ zgood) (hw3 : Cond.initialized C ∈ zgood) (hcl : zcl[c]? = some (C, ztb c, zfn c)) (hin : ∀ w ∈ u_ws C (ztb c) (zfn c), w ∈ zgood) (hty : ∀ k, k < zfn c → parseFieldDescriptor (ztb c k).2.2.1 = some (zty c k)) (hc : c < 13) (hkd : ∀ k, k < zfn c → zty c k = .int ∨ zty c k = .boolean ∨ zty c k = .byte ∨ zty c k = .long ∨ (∃ t, zty c k = .object t) ∨ ∃ t, zty c k = .array t) (hn9 : n < 900000) (k : zO l E d Y (pc + 3) ls (zR n :: st) (znew F n (c + 1, 0, zdf c), zrow D n (zdf c), n + 1, sl + zfn c) cv x) : zO l E d Y pc ls st (F, D, n, sl) cv x := zO_new (M' := (znew F n (c + 1, 0, zdf c), zrow D n (zdf c), n + 1, sl + zfn c)) (w := zfn c) rfl (fun p e Rm s m args below meth co H locs cells slots Q rls n0 hC hR hL hn hok hsz hcells hslots kk => by
  obtain ⟨hx, hb, hml, hown, hnm0, hts, hK, hf1, hf2, hT, hh1, hh2⟩ := id hC
  have hKn := hK.1.1 c _ hcl
  refine W.newcK hx hb hown (hts _ hw) (hts _ hw2) (hts _ hw3) rfl hi hcells hslots hKn.2.1 hR.1 fun H1 kC hkC e1 z1 o1 => ?_
  have hz := kk H1 locs (hok.cons (v := zR n) trivial) ?_ hL
  · rw [List.map_cons] at hz
    rw [show zval E (zR n) = Value.ref (zB E + n) from congrArg Value.ref (zad_lt (Nat.lt_succ_self n) (by omega))] at hz
    exact hz
  · have hk1 : (znew F n (c + 1, 0, zdf c) n).1 = c + 1 := by rw [znew_self]
    have hfv : ∀ j, zfv (znew F n (c + 1, 0, zdf c)) (zrow D n (zdf c)) n c j = zdf c j := fun j => by simp [zfv, znew_self, zrow_self]
    refine zRep_new hR hn9 ?_ z1 (fun q hq => o1 q hq) (fun b hb => znew_ne hb) (fun b hb => zrow_ne hb) ⟨(zobj_ok hk1 hc).mpr fun j hj => ?_, by rw [znew_self]; exact Nat.zero_le _⟩
    · rw [zobj hk1 hc]
      refine ⟨_, hcl, (u_born (zty c) hts hin hKn hkC e1 hty).to fun j hj => ?_⟩
      simp only [vp_V, zfs, hfv]
      rw [zdf_val E c j (hkd j hj)]
      simp [hj]
    · rw [hfv]; exact zdf_ok c j (hkd j hj)) k
theorem zO_newi {z : Int} {ty : ArrayType} {kd : Nat} (hi : decode Y.2.1 pc = .ok (.newarray ty, 2)) (hkd : (ty = .int ∧ kd = 20) ∨ (ty = .long ∧ kd = 21) ∨ (ty = .byte ∧ kd = 22) ∨ (ty = .boolean ∧ kd = 23)) (hz : 0 ≤ z ∧ z ≤ 1000000) (hn9 : n < 900000) (k : zO l E d Y (pc + 2) ls (zR n :: st) (znew F n (kd, z.toNat, fun _ => 0), zrow D n (fun _ => 0), n + 1, sl + z.toNat) cv x) : zO l E d Y pc ls (zI z :: st) (F, D, n, sl) cv x := zO_new (M' := (znew F n (kd, z.toNat, fun _ => 0), zrow D n (fun _ => 0), n + 1, sl + z.toNat)) (w := z.toNat) rfl (fun p e Rm s m args below meth co H locs cells slots Q rls n0 hC hR hL hn hok hsz hcells hslots kk => by
  obtain ⟨hx, hb, hml, hown, hnm0, hts, hK, hf1, hf2, hT, hh1, hh2⟩ := id hC
  have hz0 : -2147483648 ≤ z ∧ z ≤ 2147483647 := hok.hd
  have harr : (Cond.arrayClass (newarray.typeOf ty)).before args s = true := by
    rcases hkd with ⟨rfl, rfl⟩ | ⟨rfl, rfl⟩ | ⟨rfl, rfl⟩ | ⟨rfl, rfl⟩
    · exact hts _ wA_int
    · exact hts _ wA_long
    · exact hts _ wA_byte
    · exact hts _ wA_boolean
  have hbytes : z.toNat * componentBytes (newarray.typeOf ty) ≤ 536870912 := by
    have h8 : componentBytes (newarray.typeOf ty) ≤ 8 := by rcases hkd with ⟨rfl, rfl⟩ | ⟨rfl, rfl⟩ | ⟨rfl, rfl⟩ | ⟨rfl, rfl⟩ <;> decide
    have : z.toNat * componentBytes (newarray.typeOf ty) ≤ 1000000 * 8 := Nat.mul_le_mul (by omega) h8
    omega
  refine va_newaK hx hb harr rfl hi rfl (by rw [Int32.lt_iff_toInt_lt, z32 hz0]; simpa using hz.1) (z32_nat hz0) hbytes hcells hslots hR.1 fun H1 cA e1 z1 o1 hAr hNm => ?_
  have hzz := kk H1 locs (hok.tl.cons (v := zR n) trivial) ?_ hL
  · rw [List.map_cons] at hzz
    rw [show zval E (zR n) = Value.ref (zB E + n) from congrArg Value.ref (zad_lt (Nat.lt_succ_self n) (by omega))] at hzz
    exact hzz
  · have hk1 : (znew F n (kd, z.toNat, fun _ => 0) n).1 = kd := by rw [znew_self]
    refine zRep_new hR hn9 ?_ z1 (fun q hq => o1 q hq) (fun b hb => znew_ne hb) (fun b hb => zrow_ne hb) ⟨?_, by rw [znew_self]; show z.toNat ≤ _; omega⟩
    · rcases hkd with ⟨rfl, rfl⟩ | ⟨rfl, rfl⟩ | ⟨rfl, rfl⟩ | ⟨rfl, rfl⟩
      · have hcA : E.2.1 20 = cA := Option.some.inj (((hK.1.2 0 _ rfl).2).symm.trans hNm)
        rw [zarr20 hk1, znew_self, zrow_self, hcA]; exact e1
      · have hcA : E.2.1 21 = cA := Option.some.inj (((hK.1.2 1 _ rfl).2).symm.trans hNm)
        rw [zarr21 hk1, znew_self, zrow_self, hcA]; exact e1
      · have hcA : E.2.1 22 = cA := Option.some.inj (((hK.1.2 2 _ rfl).2).symm.trans hNm)
        rw [zarr22 hk1, znew_self, zrow_self, hcA]; exact e1
      · have hcA : E.2.1 23 = cA := Option.some.inj (((hK.1.2 3 _ rfl).2).symm.trans hNm)
        rw [zarr23 hk1, znew_self, zrow_self, hcA]; exact e1
    · rcases hkd with ⟨rfl, rfl⟩ | ⟨rfl, rfl⟩ | ⟨rfl, rfl⟩ | ⟨rfl, rfl⟩
      · exact (zok20 hk1).mpr fun j => by rw [zrow_self]; decide
      · exact (zok21 hk1).mpr fun j => by rw [zrow_self]; decide
      · exact (zok22 hk1).mpr fun j => by rw [zrow_self]; decide
      · exact (zok23 hk1).mpr fun j => by rw [zrow_self]; decide) k
end ZN
