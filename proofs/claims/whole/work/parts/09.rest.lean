/-! ===== final fields, arrays of references, what is given, copies ===== -/
def zfin (F : zFs) (a k : Nat) (z : Int) : zFs := fun b => if b = a then ((F a).1, (F a).2.1, zset (F a).2.2 k z) else F b
theorem zfin_ne {F : zFs} {a k b : Nat} {z : Int} (h : b ≠ a) : zfin F a k z b = F b := by simp [zfin, h]
theorem zfin_1 {F : zFs} {a k b : Nat} {z : Int} : (zfin F a k z b).1 = (F b).1 := by
  unfold zfin; split
  · next h => subst h; rfl
  · rfl
theorem zfin_2 {F : zFs} {a k b : Nat} {z : Int} : (zfin F a k z b).2.1 = (F b).2.1 := by
  unfold zfin; split
  · next h => subst h; rfl
  · rfl
def zqo (z : Int) : Option Nat := if z < 0 then none else some z.toNat
theorem zad_st (E : zE) (j0 : Nat) : zad E (1000000 + j0) = E.2.2.2.1 j0 := by unfold zad; rw [if_neg (by omega), Nat.add_sub_cancel_left]
section ZR
variable {α : Type} {l : Launch} {E : zE} {d : Nat} {Y : zY} {pc : Nat} {ls : zLs} {st : List zV} {F : zFs} {D : zDa} {n sl : Nat} {cv : α → zRes} {x : Option α}
theorem zO_putF {c k j : Nat} {C : String} {a : Nat} {v : zV} {z : Int} (hi : decode Y.2.1 pc = .ok (.putfield j, 3)) (hw : Cond.fieldLink Y.1.cls j (ztb c k).1 (ztb c k).2.1 (ztb c k).2.2.1 ∈ zgood) (hcl : zcl[c]? = some (C, ztb c, zfn c)) (hin : ∀ w ∈ u_ws C (ztb c) (zfn c), w ∈ zgood) (hty : ∀ k, k < zfn c → parseFieldDescriptor (ztb c k).2.2.1 = some (zty c k)) (hnm : ∀ a, a < zfn c → ∀ b, b < zfn c → a ≠ b → (ztb c a).2.1 ≠ (ztb c b).2.1) (hk : k < zfn c) (hc : c < 13) (hfin : (ztb c k).2.2.2 = true) (hdecl : (ztb c k).1 = Y.1.cls) (hini : Y.1.name = "<init>") (ha : (F a).1 = c + 1) (hv : v = zdec (zty c k) z) (hz : zfok (zty c k) z) (kk : zO l E d Y (pc + 3) ls st (zfin F a k z, D, n, sl) cv x) : zO l E d Y pc ls (v :: zR a :: st) (F, D, n, sl) cv x := zO_mem (M' := (zfin F a k z, D, n, sl)) rfl (fun p e Rm s m args below meth co H locs cells slots Q rls n0 hC hR hL hn hok hsz kk => by
  obtain ⟨hx, hb, hml, hown, hnm0, hts, hK, hf1, hf2, hT, hh1, hh2⟩ := id hC
  have hlt := zkind_lt hR ha (by omega)
  have hK0 := hK.1
  have hP := hR.2.1
  have e0 : (zws E F D n)[a]? = some (zB E + a, .inr (c, zfs E F D a c)) := by rw [zws_get hlt, zobj ha hc]
  have hap := va_apart (own := Y.1.cls) hts hin (zty c) hty hnm hK0 hcl
  obtain ⟨r, h1, cell, q1, q2, q3, q4⟩ := hP a _ e0
  have hr : r = (C, ztb c, zfn c) := Option.some.inj (h1.symm.trans hcl)
  subst hr
  obtain ⟨hS, hfc, kC, hkC, hkind⟩ := hK0.1 c _ hcl
  obtain ⟨cf, kf, fi, f, hif, hsl⟩ := hS k hk
  have hlay := hts _ (hin _ (u_in_lay hk))
  unfold u_lay at hlay
  rw [if_pos hfin] at hlay
  have hst := (u_facts hfc hkC (u_lays hts hin hk) hif).1
  have hcf : m.cls = cf := by
    obtain ⟨_, _, c', _, _, _, -, -, hf', -, -, -, hown2, -⟩ := Cond.laysFinal_spec hlay
    have e1 : c' = cf := by have := hif.symm.trans hf'; simp at this; exact this.1.symm
    rw [hdecl] at hown2
    rw [← e1]; exact Option.some.inj (hown.symm.trans hown2)
  obtain ⟨n1, n2⟩ := znarrow (E := E) hz
  have h6 := u_fits hfc hkC hkind (Or.inr hlay) hif (hty k hk) n1 n2
  subst hv
  show W p l e Rm s m args below meth co H locs cells slots Q (F0 m pc rls (zval E (zdec (zty c k) z) :: Value.ref (zad E a) :: st.map (zval E)))
  rw [zad_lt hlt hR.2.2.2.2.1]
  refine W.putFinK hx hb hown (hts _ hw) hif hst hcf (hnm0.trans hini) (by rw [q2]; exact h6) q1 q3 (by rw [hsl]; exact k2_hasslot (q4 k hk)) rfl rfl hi fun H' e1 e2 e3 => ?_
  rw [hsl] at e1 ⊢
  have hf1 : zfv (zfin F a k z) D a c k = z := by simp [zfv, hfin, zfin, zset]
  have hf2 : ∀ j, j ≠ k → zfv (zfin F a k z) D a c j = zfv F D a c j := fun j hj => by simp [zfv, zfin, zset, hj]
  have ha' : (zfin F a k z a).1 = c + 1 := by rw [zfin_1]; exact ha
  obtain ⟨r1, r2, r3, r4, r5, r6⟩ := hR
  have hfs : (zfs E F D a c).set k (zval E (zdec (zty c k) z)) = zfs E (zfin F a k z) D a c := by
    apply List.ext_getElem?
    intro j
    rw [List.getElem?_set]
    by_cases hj : k = j
    · subst hj
      simp [zfs, hk, hf1]
    · rw [if_neg hj]
      simp only [zfs, List.getElem?_map]
      by_cases hj2 : j < zfn c
      · simp [hj2, hf2 j (Ne.symm hj)]
      · simp [hj2]
  refine kk H' _ hok.tl.tl ⟨e2.trans r1, fun kq q hq => ?_, fun q hq => ?_, fun b hb => ?_, r5, fun b hb => by rw [zfin_1]; exact r6 b hb⟩ (zloc hL)
  · obtain ⟨hkq, rfl⟩ := zws_some hq
    by_cases hka : kq = a
    · subst hka
      dsimp only
      rw [zobj ha' hc, ← hfs]
      exact ⟨_, hcl, t_OB.to (V := updV (vp_V (zfs E F D kq c)) k (zval E (zdec (zty c k) z))) ⟨_, e1, q2, q3, t_set q4 hap hk _⟩ (fun j _ => vp_updV_set (by simpa [zfs] using hk) _ j)⟩
    · have hz9 := r2 kq _ (zws_get hkq)
      dsimp only
      rw [zent_congr (F := F) (D := D) (zfin_ne hka) rfl]
      exact hz9.kept (e3 _ (by show zB E + kq ≠ zB E + a; omega))
  · have hq9 : q ≠ zB E + a := by have h9 : q < zB E := hq; omega
    rw [e3 q hq9]; exact r3 q hq
  · dsimp only
    rw [zfin_2]
    refine ⟨?_, (r4 b hb).2⟩
    by_cases hba : b = a
    · subst hba
      rw [zobj_ok ha' hc]
      intro j hj
      by_cases hjk : j = k
      · subst hjk; rw [hf1]; exact hz
      · rw [hf2 j hjk]; exact (zobj_ok ha hc).mp (r4 b hlt).1 j hj
    · exact (zcok_congr (zfin_ne hba) rfl).mpr (r4 b hb).1) kk
theorem zO_newq {z : Int} {j kd : Nat} {C : String} (hi : decode Y.2.1 pc = .ok (.anewarray j, 3)) (hw : Cond.classLink Y.1.cls j C ∈ zgood) (hkd : (C = "ExamSlips$State" ∧ kd = 24) ∨ (C = "ExamSlips$Paper" ∧ kd = 25)) (hz : 0 ≤ z ∧ z ≤ 1000000) (hn9 : n < 900000) (k : zO l E d Y (pc + 3) ls (zR n :: st) (znew F n (kd, z.toNat, fun _ => 0), zrow D n (fun _ => -1), n + 1, sl + z.toNat) cv x) : zO l E d Y pc ls (zI z :: st) (F, D, n, sl) cv x := zO_new (M' := (znew F n (kd, z.toNat, fun _ => 0), zrow D n (fun _ => -1), n + 1, sl + z.toNat)) (w := z.toNat) rfl (fun p e Rm s m args below meth co H locs cells slots Q rls n0 hC hR hL hn hok hsz hcells hslots kk => by
  obtain ⟨hx, hb, hml, hown, hnm0, hts, hK, hf1, hf2, hT, hh1, hh2⟩ := id hC
  have hz0 : -2147483648 ≤ z ∧ z ≤ 2147483647 := hok.hd
  have hover : va_AO C s := by
    rcases hkd with ⟨rfl, rfl⟩ | ⟨rfl, rfl⟩
    · exact hK.2.1 _ (by simp [znest])
    · exact hK.2.1 _ (by simp [znest])
  refine W.anew hx hb hown (hts _ hw) (va_AO.use hover) rfl hi rfl (by rw [Int32.lt_iff_toInt_lt, z32 hz0]; simpa using hz.1) (by rw [z32_nat hz0]; omega) hcells (by rw [z32_nat hz0]; exact hslots) fun cA kA comp f1 f2 f3 f4 => ?_
  rw [z32_nat hz0, hR.1]
  have hzz := kk (H.push { cls := cA, slots := Array.replicate z.toNat .null, vm := .none }) locs (hok.tl.cons (v := zR n) trivial) ?_ hL
  · rw [List.map_cons] at hzz
    rw [show zval E (zR n) = Value.ref (zB E + n) from congrArg Value.ref (zad_lt (Nat.lt_succ_self n) (by omega))] at hzz
    exact hzz
  · have hk1 : (znew F n (kd, z.toNat, fun _ => 0) n).1 = kd := by rw [znew_self]
    have hsz2 : H.size = zB E + n := hR.1
    refine zRep_new hR hn9 ?_ (by simp [hsz2]) (fun q hq => by rw [Array.getElem?_push, if_neg (by omega)]) (fun b hb => znew_ne hb) (fun b hb => zrow_ne hb) ⟨zok24 hk1 (by rcases hkd with ⟨-, rfl⟩ | ⟨-, rfl⟩ <;> simp), by rw [znew_self]; show z.toNat ≤ _; omega⟩
    have hcA : E.2.1 kd = cA := by
      rcases hkd with ⟨rfl, rfl⟩ | ⟨rfl, rfl⟩
      · obtain ⟨kA', comp', g1, g2, g3, g4⟩ := (hK.1.2 4 _ rfl).2
        exact Option.some.inj (g4.symm.trans f1)
      · obtain ⟨kA', comp', g1, g2, g3, g4⟩ := (hK.1.2 5 _ rfl).2
        exact Option.some.inj (g4.symm.trans f1)
    rw [zarr24 hk1 (by rcases hkd with ⟨-, rfl⟩ | ⟨-, rfl⟩ <;> simp), znew_self, zrow_self, hcA]
    show (H.push _)[zB E + n]? = some (vp_cell _ _)
    rw [← hsz2, vp_cell_q, arrV_new]
    have hrf : (fun _ : Nat => va_rf (zro E (-1))) = fun _ => Value.null := by funext _; rfl
    rw [hrf]
    simp) k
theorem zS2 {l : Launch} {E : zE} {d : Nat} {Y : zY} {n0 : Nat} {p : Program} {R : Room} {s : State} {m : MethodId} {args : Array Value} {meth : Method} {c : Code} (hC : zCx l E d Y n0 p R s m args meth c) : ∀ a : Nat, a < E.2.2.1.size → ¬ zA E a → s.heap[a]? = E.2.2.1[a]? := fun a h _ => hC.2.2.2.2.2.2.2.2.2.2.2 a h
theorem zO_aast {a : Nat} {j z : Int} {kd c : Nat} (hi : decode Y.2.1 pc = .ok (.aastore, 1)) (ha : (F a).1 = kd) (hk : (kd = 24 ∧ c = 9) ∨ (kd = 25 ∧ c = 3)) (hz : z < 0 ∨ (F z.toNat).1 = c + 1) (hj : 0 ≤ j ∧ j < (F a).2.1) (k : zO l E d Y (pc + 1) ls st (F, zwr D a j.toNat z, n, sl) cv x) : zO l E d Y pc ls (zq z :: zI j :: zR a :: st) (F, D, n, sl) cv x := zO_mem (M' := (F, zwr D a j.toNat z, n, sl)) rfl (fun p e Rm s m args below meth co H locs cells slots Q rls n0 hC hR hL hn hok hsz kk => by
  obtain ⟨hx, hb0, hml, hown, hnm0, hts, hK, hf1, hf2, hT, hh1, hh2⟩ := id hC
  have hlt := zkind_lt hR ha (by omega)
  have hj0 : -2147483648 ≤ j ∧ j ≤ 2147483647 := hok.tl.hd
  have hk2 : kd = 24 ∨ kd = 25 := by omega
  have hat := hR.2.1 a _ (zws_get hlt)
  rw [zarr24 ha hk2] at hat
  have hin := z32_in hj0 hj
  have h0 : ¬ Int32.ofInt j < 0 := fun q => hin (Or.inl q)
  have h00 : (Int32.ofInt j).toNatClampNeg < (F a).2.1 := Nat.not_le.mp fun q => hin (Or.inr q)
  have hfin : ∀ (H1 : Heap), H1[zB E + a]? = some ((vp_cell (E.2.1 kd) ((F a).2.1, .inr (.inr (.inr (.inr (fun j => zro E (D a j))))))).setSlot (Int32.ofInt j).toNatClampNeg (va_rf (zro E z))) → H1.size = H.size → (∀ q : Nat, q ≠ zB E + a → H1[q]? = H[q]?) → W p l e Rm s m args below meth co H1 (locs ++ [⟨zB E + a, (Int32.ofInt j).toNatClampNeg⟩]) cells slots Q (F0 m (pc + 1) rls (st.map (zval E))) := by
    intro H1 e1 z1 oq
    refine kk H1 _ hok.tl.tl.tl (zRep_set hR hlt ?_ z1 oq (fun b hb => zwr_ne hb) (zok24 ha hk2)) (zloc hL)
    rw [zarr24 ha hk2]
    show H1[zB E + a]? = some (vp_cell _ _)
    rw [e1, vp_cell_q, vp_cell_q, arrV_store]
    congr 2
    funext q
    rw [z32_nat hj0]
    by_cases hq : q = j.toNat
    · subst hq
      simp [updV, zwr]
    · simp [updV, zwr, hq]
  by_cases hneg : z < 0
  · have e1 : zval E (zq z) = .null := by simp [zq, hneg, zval]
    have e2 : va_rf (zro E z) = .null := by simp [zro, hneg, va_rf]
    rw [e2] at hfin
    show W p l e Rm s m args below meth co H locs cells slots Q (F0 m pc rls (zval E (zq z) :: Value.int (Int32.ofInt j) :: Value.ref (zad E a) :: st.map (zval E)))
    rw [zad_lt hlt hR.2.2.2.2.1, e1]
    rcases hk with ⟨rfl, rfl⟩ | ⟨rfl, rfl⟩
    · exact va_WaastN hx hb0 hat ((hK.1.2 4 _ rfl).1 _ _) (fun q => by cases q) (by show ¬ (Int32.ofInt j < 0 ∨ (arrV _ _ _).slots.size ≤ _); rw [arrV_size]; exact hin) rfl rfl hi hfin
    · exact va_WaastN hx hb0 hat ((hK.1.2 5 _ rfl).1 _ _) (fun q => by cases q) (by show ¬ (Int32.ofInt j < 0 ∨ (arrV _ _ _).slots.size ≤ _); rw [arrV_size]; exact hin) rfl rfl hi hfin
  · have hb : (F z.toNat).1 = c + 1 := hz.resolve_left hneg
    have hltb := zkind_lt hR hb (by omega)
    have hatb := hR.2.1 z.toNat _ (zws_get hltb)
    rw [zobj hb (by omega)] at hatb
    obtain ⟨r', hr', cellV, g1, g2, g3, -⟩ := hatb
    have e1 : zval E (zq z) = .ref (zB E + z.toNat) := by simp [zq, hneg, zval, zad_lt hltb hR.2.2.2.2.1]
    have e2 : va_rf (zro E z) = .ref (zB E + z.toNat) := by simp [zro, hneg, va_rf, zad_lt hltb hR.2.2.2.2.1]
    rw [e2] at hfin
    show W p l e Rm s m args below meth co H locs cells slots Q (F0 m pc rls (zval E (zq z) :: Value.int (Int32.ofInt j) :: Value.ref (zad E a) :: st.map (zval E)))
    rw [zad_lt hlt hR.2.2.2.2.1, e1]
    rcases hk with ⟨rfl, rfl⟩ | ⟨rfl, rfl⟩
    · have hcls := (hK.1.1 9 _ rfl).2
      obtain ⟨kA, comp, k1, k2, k3, -⟩ := (hK.1.2 4 _ rfl).2
      have hcomp : comp = E.1.1 9 := Option.some.inj (k3.symm.trans hcls.1)
      subst hcomp
      obtain ⟨kC, hkC, -⟩ := hcls.2
      exact W.aast hx hb0 hat (fun q h => by cases h) (fun h => by cases h) k1 k2 rfl hkC ⟨h0, by show _ < (arrV _ _ _).slots.size; rw [arrV_size]; exact h00⟩ g1 (fun q h => by rw [g3] at h; cases h) (by rw [g2]; exact hkC) (by rw [g2]; exact va_assign hcls) rfl rfl hi hfin
    · have hcls := (hK.1.1 3 _ rfl).2
      obtain ⟨kA, comp, k1, k2, k3, -⟩ := (hK.1.2 5 _ rfl).2
      have hcomp : comp = E.1.1 3 := Option.some.inj (k3.symm.trans hcls.1)
      subst hcomp
      obtain ⟨kC, hkC, -⟩ := hcls.2
      exact W.aast hx hb0 hat (fun q h => by cases h) (fun h => by cases h) k1 k2 rfl hkC ⟨h0, by show _ < (arrV _ _ _).slots.size; rw [arrV_size]; exact h00⟩ g1 (fun q h => by rw [g3] at h; cases h) (by rw [g2]; exact hkC) (by rw [g2]; exact va_assign hcls) rfl rfl hi hfin) k
theorem zO_aald {a : Nat} {j : Int} {kd : Nat} (hi : decode Y.2.1 pc = .ok (.aaload, 1)) (ha : (F a).1 = kd) (hk : kd = 24 ∨ kd = 25) (hj : 0 ≤ j ∧ j < (F a).2.1) (k : zO l E d Y (pc + 1) ls (zq (D a j.toNat) :: st) (F, D, n, sl) cv x) : zO l E d Y pc ls (zI j :: zR a :: st) (F, D, n, sl) cv x := zO_go (fun p e Rm s m args below meth co H locs cells slots Q rls n0 hC hR hL hn hok hl kk => by
  obtain ⟨hx, hb, hml, hown, hnm, hts, hK, hf1, hf2, hT, hh1, hh2⟩ := id hC
  have hlt := zkind_lt hR ha (by omega)
  have hj0 : -2147483648 ≤ j ∧ j ≤ 2147483647 := hok.hd
  have e0 : (zws E F D n)[a]? = some (zB E + a, .inl (E.2.1 kd, (F a).2.1, .inr (.inr (.inr (.inr (fun j => zro E (D a j))))))) := by rw [zws_get hlt, zarr24 ha hk]
  show W p l e Rm s m args below meth co H locs cells slots Q (F0 m pc rls (Value.int (Int32.ofInt j) :: Value.ref (zad E a) :: st.map (zval E)))
  rw [zad_lt hlt hR.2.2.2.2.1]
  have hkk := kk rls (hok.tl.tl.cons (v := zq (D a j.toNat)) trivial) hl
  have hz : va_rf (zro E (D a (Int32.ofInt j).toNatClampNeg)) = zval E (zq (D a j.toNat)) := by
    rw [z32_nat hj0]
    unfold zro zq
    split <;> rfl
  rcases hk with rfl | rfl
  · refine va_aldq hx hb hK.1 hR.2.1 a 4 e0 rfl (z32_in hj0 hj) hi ?_
    rw [hz]; exact hkk
  · refine va_aldq hx hb hK.1 hR.2.1 a 5 e0 rfl (z32_in hj0 hj) hi ?_
    rw [hz]; exact hkk) k
theorem zO_st {st' : List zV} {M : zM} (h : st = st') (k : zO l E d Y pc ls st' M cv x) : zO l E d Y pc ls st M cv x := h ▸ k
theorem zO_ls {ls' : zLs} {M : zM} (h : ls = ls') (k : zO l E d Y pc ls' st M cv x) : zO l E d Y pc ls st M cv x := h ▸ k
theorem zO_ifnnq {z : Int} {off : Int} {tgt : Nat} {y : Option α} {M : zM} (hi : decode Y.2.1 pc = .ok (.ifnonnull off, 3)) (ht : (pc : Int) + off = (tgt : Int)) (kt : z < 0 → zO l E d Y (pc + 3) ls st M cv x) (kf : ¬ z < 0 → zO l E d Y tgt ls st M cv y) : zO l E d Y pc ls (zq z :: st) M cv (if z < 0 then x else y) := by
  by_cases h : z < 0
  · rw [if_pos h, zq, if_pos h]
    exact zO_ifnonnullN hi (kt h)
  · rw [if_neg h, zq, if_neg h]
    exact zO_ifnonnull hi ht (kf h)
/-! what is given at the start -/
theorem zO_sld {M : zM} {j0 : Nat} {j : Int} (hi : decode Y.2.1 pc = .ok (.iaload, 1)) (h4 : j0 < 4) (hj : 0 ≤ j ∧ j < zgl E j0) (k : zO l E d Y (pc + 1) ls (zI (zga E j0 j.toNat) :: st) M cv x) : zO l E d Y pc ls (zI j :: zR (1000000 + j0) :: st) M cv x := zO_go (fun p e Rm s m args below meth co H locs cells slots Q rls n0 hC hR hL hn hok hl kk => by
  obtain ⟨hx, hb, hml, hown, hnm, hts, hK, hf1, hf2, hT, hh1, hh2⟩ := id hC
  have hj0 : -2147483648 ≤ j ∧ j ≤ 2147483647 := hok.hd
  obtain ⟨g1, g2, g3, g4⟩ := hK.2.2.2.1 j0 h4
  have hX : va_X (E.2.2.2.1 j0) (zgl E j0) (fun k => Int32.ofInt (zga E j0 k)) s s.heap := g1.kept (hh2 _ g2)
  have ead : zad E (1000000 + j0) = E.2.2.2.1 j0 := zad_st E j0
  show W p l e Rm s m args below meth co H locs cells slots Q (F0 m pc rls (Value.int (Int32.ofInt j) :: Value.ref (zad E (1000000 + j0)) :: st.map (zval E)))
  rw [ead]
  refine va_sld hx hb hX (by rw [hh1]; omega) (fun q => by have : zB E ≤ E.2.2.2.1 j0 := q; omega) (zS_of hC hR hL hn) (z32_in hj0 hj) hi ?_
  rw [z32_nat hj0]
  exact kk rls (hok.tl.tl.cons (v := zI (zga E j0 j.toNat)) (g4 _)) hl) k
theorem zO_slen {M : zM} {j0 : Nat} (hi : decode Y.2.1 pc = .ok (.arraylength, 1)) (h4 : j0 < 4) (k : zO l E d Y (pc + 1) ls (zI (zgl E j0 : Int) :: st) M cv x) : zO l E d Y pc ls (zR (1000000 + j0) :: st) M cv x := zO_go (fun p e Rm s m args below meth co H locs cells slots Q rls n0 hC hR hL hn hok hl kk => by
  obtain ⟨hx, hb, hml, hown, hnm, hts, hK, hf1, hf2, hT, hh1, hh2⟩ := id hC
  obtain ⟨g1, g2, g3, g4⟩ := hK.2.2.2.1 j0 h4
  have hX : va_X (E.2.2.2.1 j0) (zgl E j0) (fun k => Int32.ofInt (zga E j0 k)) s s.heap := g1.kept (hh2 _ g2)
  have ead : zad E (1000000 + j0) = E.2.2.2.1 j0 := zad_st E j0
  show W p l e Rm s m args below meth co H locs cells slots Q (F0 m pc rls (Value.ref (zad E (1000000 + j0)) :: st.map (zval E)))
  rw [ead]
  refine va_slen hx hb hX (by rw [hh1]; omega) (fun q => by have : zB E ≤ E.2.2.2.1 j0 := q; omega) (zS_of hC hR hL hn) hi ?_
  rw [← Int32.ofInt_eq_ofNat]
  exact kk rls (hok.tl.cons (v := zI (zgl E j0 : Int)) ⟨by omega, by omega⟩) hl) k
theorem zO_gets {M : zM} {j j0 : Nat} {nm : String} (hi : decode Y.2.1 pc = .ok (.getstatic j, 3)) (hj : (nm = "TERMS_LEAST" ∧ j0 = 1) ∨ (nm = "TERMS_MOST" ∧ j0 = 2)) (hw : Cond.fieldLink Y.1.cls j "ExamSlips" nm "[I" ∈ zgood) (k : zO l E d Y (pc + 3) ls (zR (1000000 + j0) :: st) M cv x) : zO l E d Y pc ls st M cv x := zO_go (fun p e Rm s m args below meth co H locs cells slots Q rls n0 hC hR hL hn hok hl kk => by
  obtain ⟨hx, hb, hml, hown, hnm, hts, hK, hf1, hf2, hT, hh1, hh2⟩ := id hC
  have ead : zad E (1000000 + j0) = E.2.2.2.1 j0 := zad_st E j0
  have hkk := kk rls (hok.cons (v := zR (1000000 + j0)) trivial) hl
  rw [List.map_cons, show zval E (zR (1000000 + j0)) = Value.ref (E.2.2.2.1 j0) from congrArg Value.ref ead] at hkk
  rcases hj with ⟨rfl, rfl⟩ | ⟨rfl, rfl⟩
  · exact va_gets hx hb (hK.2.2.1.1.kept (zS2 hC)) (zS_of hC hR hL hn) hown (hts _ hw) (fun _ h => h) hi hkk
  · exact va_gets hx hb (hK.2.2.1.2.1.kept (zS2 hC)) (zS_of hC hR hL hn) hown (hts _ hw) (fun _ h => h) hi hkk) k
theorem zO_getsC {M : zM} {j : Nat} (hi : decode Y.2.1 pc = .ok (.getstatic j, 3)) (hw : Cond.fieldLink Y.1.cls j "java/lang/String" "COMPACT_STRINGS" "Z" ∈ zgood) (k : zO l E d Y (pc + 3) ls (zI 1 :: st) M cv x) : zO l E d Y pc ls st M cv x := zO_go (fun p e Rm s m args below meth co H locs cells slots Q rls n0 hC hR hL hn hok hl kk => by
  obtain ⟨hx, hb, hml, hown, hnm, hts, hK, hf1, hf2, hT, hh1, hh2⟩ := id hC
  exact va_gets hx hb (hK.2.2.1.2.2.2.kept (zS2 hC)) (zS_of hC hR hL hn) hown (hts _ hw) (fun _ h => h) hi (kk rls (hok.cons (v := zI 1) (show -2147483648 ≤ (1 : Int) ∧ (1 : Int) ≤ 2147483647 by decide)) hl)) k
theorem zO_ldcS {M : zM} {j j0 : Nat} (hi : decode Y.2.1 pc = .ok (.ldc j, 2)) (hc : Y.1.cls = "ExamSlips$Reader") (hj : (j = 88 ∧ j0 = 10) ∨ (j = 94 ∧ j0 = 11) ∨ (j = 96 ∧ j0 = 12)) (k : zO l E d Y (pc + 2) ls (zR (1000000 + j0) :: st) M cv x) : zO l E d Y pc ls st M cv x := zO_go (fun p e Rm s m args below meth co H locs cells slots Q rls n0 hC hR hL hn hok hl kk => by
  obtain ⟨hx, hb, hml, hown, hnm, hts, hK, hf1, hf2, hT, hh1, hh2⟩ := id hC
  have ead : zad E (1000000 + j0) = E.2.2.2.1 j0 := zad_st E j0
  have hkk := kk rls (hok.cons (v := zR (1000000 + j0)) trivial) hl
  rw [List.map_cons, show zval E (zR (1000000 + j0)) = Value.ref (E.2.2.2.1 j0) from congrArg Value.ref ead] at hkk
  rw [hc] at hown
  rcases hj with ⟨rfl, rfl⟩ | ⟨rfl, rfl⟩ | ⟨rfl, rfl⟩
  · exact va_ldcS hx hb hown hK.2.2.2.2.1 hi hkk
  · exact va_ldcS hx hb hown hK.2.2.2.2.2.1 hi hkk
  · exact va_ldcS hx hb hown hK.2.2.2.2.2.2.1 hi hkk) k
end ZR
