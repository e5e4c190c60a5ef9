/-! ===== rules that only constructors need ===== -/
theorem zW_run {p : Program} {l : Launch} {e : Env} {R : Room} {s : State} {m : MethodId} {args : Array Value} {below : List Frame} {meth : Method} {c : Code} {H : Heap} {locs : List Loc} {cells slots mc ms : Nat} {g : JFrame} {rest : List Value} {Qa : State → Outcome → State → Prop} {free : Addr → Prop} (h : va_Run p l e R s m args below meth c H locs cells slots mc ms g rest Qa free) : CallRun p l e R s m args below meth c H locs cells slots mc ms g rest Qa free := by
  intro T hT X
  obtain ⟨v, st₀, t, T', L, h1, h2, h3, h4, -, h6, h7⟩ := h T hT X
  exact ⟨v, st₀, t, T', L, h1, h2, h3, h4, h6, h7⟩
section ZCt
variable {α β : Type} {l : Launch} {E : zE} {d : Nat} {Y Y' : zY} {pc : Nat} {ls : zLs} {st : List zV} {M : zM} {cv : α → zRes} {cw : β → zRes} {y : Option β} {g : β → Option α} {x : Option α}
theorem zO_callIN {as rest : List zV} {j a : Nat} (hi : decode Y.2.1 pc = .ok (.invokespecial j, 3)) (hwc : Cond.code Y'.1 Y'.2.1 Y'.2.2.1 Y'.2.2.2.1 ∈ zgood) (hwn : Cond.initialized Y'.1.cls ∈ zgood) (hwm : Cond.methodLinkNest Y.1.cls j Y'.1 "ExamSlips" ∈ znest) (hwi : Cond.instanceMethod Y'.1 ∈ zgood) (hni : Y'.1.name = "<init>") (hret : Y'.2.2.2.1 = none) (hml : Y'.2.2.1 ≤ 45) {na : Nat} (hd0 : zdesc Y' na) (hna : as.length = na) (hst : st = as.reverse ++ zR a :: rest) (hw8 : zwid rest ≤ 8)
    (hM : ∀ r, y = some r → zMet l E d Y' (zR a :: as) M (cw r)) (k : ∀ r, y = some r → zO l E (d + 1) Y (pc + 3) ls ((cw r).1.toList ++ rest) (cw r).2 cv (g r)) : zO l E (d + 1) Y pc ls st M cv (y.bind g) := by
  refine zO_call0 (as := zR a :: as) (rest := rest) hM (fun r hr p e Rm s m args below meth c H locs rls n0 cells slots hC hR hL hn hsz hav hcs => ?_) rfl (fun ls' h => ⟨⟨h.1, fun v hv => h.2 v (by rw [hst]; exact List.mem_append_right _ (List.mem_cons_of_mem _ hv))⟩, fun v hv => by
    rcases List.mem_cons.mp hv with rfl | hv
    · trivial
    · exact h.2 v (by rw [hst]; exact List.mem_append_left _ (List.mem_reverse.mpr hv))⟩) k
  obtain ⟨hx, hb, hml0, hown, hnm, hts, hK, hf1, hf2, hT, hh1, hh2⟩ := id hC
  have hMet := (hM r hr).2 hav
  have hd : zdesc Y' as.length := by rw [hna]; exact hd0
  have hG : GoodIn zgood (zwd Y') := fun w hw => by
    rcases List.mem_cons.mp hw with rfl | hw
    · exact zg_self _ hwc
    · exact zg_self _ hw
  have hcn := va_cnB (args := args) (Ts := zgood) (R := Rm) (rm := zrm d M (cw r)) as.length hts hG rfl rfl rfl (hK.2.1 _ hwm) (hts _ hwn) hd ⟨hf1, by show 8 + (Y'.2.2.1 + 11) + 64 * (d + 1) ≤ Rm.locals; omega⟩
  rw [hret] at hcn
  exact zW_run (va_runIN (Ts := zgood) (nL := Y.2.2.1) (b := zad E a) (As := as.map (zval E)) ⟨hx, hb, hml0, hown, hts⟩ hMet ⟨hcn, hni, hts _ hwi⟩ ⟨zQ_blind (zR a :: as), zP_pre (zR a :: as) hR hK⟩ rfl (by simp) hsz (by subst hst; simp [zval]) (lv_room (by rw [zmapcat]; exact hw8)) hi hcs)
theorem zO_getsTF (hi : decode Y.2.1 pc = .ok (.getstatic 27, 3)) (hc : Y.1.cls = "ExamSlips$State") (k : zO l E d Y (pc + 3) ls (zR (1000000 + 3) :: st) M cv x) : zO l E d Y pc ls st M cv x := zO_go (fun p e Rm s m args below meth co H locs cells slots Q rls n0 hC hR hL hn hok hl kk => by
  obtain ⟨hx, hb, hml, hown, hnm, hts, hK, hf1, hf2, hT, hh1, hh2⟩ := id hC
  have hkk := kk rls (hok.cons (v := zR (1000000 + 3)) trivial) hl
  rw [List.map_cons, show zval E (zR (1000000 + 3)) = Value.ref (E.2.2.2.1 3) from congrArg Value.ref (zad_st E 3)] at hkk
  rw [hc] at hown
  exact va_getsN hx hb (hK.2.2.1.2.2.1.kept (zS2 hC)) (zS_of hC hR hL hn) hown (va_Nw.use rfl (hK.2.1 (.fieldLinkNest "ExamSlips$State" 27 "ExamSlips" "TERMS_AT_FIRST" "[I" "ExamSlips") (by simp [znest]))) (fun _ h => h) hi hkk) k
end ZCt
section ZCg
variable {α : Type} {l : Launch} {E : zE} {d : Nat} {Y : zY} {pc : Nat} {ls : zLs} {st : List zV} {F : zFs} {D : zDa} {n sl : Nat} {cv : α → zRes} {x : Option α}
theorem zO_cloneG {j : Nat} (hi : decode Y.2.1 pc = .ok (.invokevirtual j, 3)) (hwm : Cond.methodLink Y.1.cls j ⟨"[I", "clone", "()Ljava/lang/Object;"⟩ ∈ zgood) (hn9 : n < 900000) (hw8 : zwid st ≤ 8) (k : zO l E d Y (pc + 3) ls (zR n :: st) (znew F n (20, 7, fun _ => 0), zrow D n zTFf, n + 1, sl + 7) cv x) : zO l E d Y pc ls (zR (1000000 + 3) :: st) (F, D, n, sl) cv x := zO_new (M' := (znew F n (20, 7, fun _ => 0), zrow D n zTFf, n + 1, sl + 7)) (w := 7) rfl (fun p e Rm s m args below meth co H locs cells slots Q rls n0 hC hR hL hn hok hsz hcells hslots kk => by
  obtain ⟨hx, hb, hml, hown, hnm0, hts, hK, hf1, hf2, hT, hh1, hh2⟩ := id hC
  obtain ⟨cell, hc1, hc2, -⟩ := hK.2.2.2.2.2.2.2.2
  obtain ⟨⟨scr, g1, g2, g3, g4, g5⟩, gl, -, -⟩ := hK.2.2.2.1 3 (by omega)
  cases hc1.symm.trans g1
  obtain ⟨c0, t0', f1, f2, f3⟩ := Cond.castable_spec (va_Nw.use (A := args) rfl (hK.2.1 (.castable "[I" "java/lang/Cloneable") (by simp [znest])))
  cases hc2.symm.trans f1
  have hcell : H[E.2.2.2.1 3]? = some cell := by rw [hR.2.2.1 _ gl]; exact hc1
  have hsz7 : cell.slots.size = 7 := g4
  have hcA : E.2.1 20 = cell.cls := Option.some.inj (((hK.1.2 0 _ rfl).2).symm.trans hc2)
  have hcellE : ({ cls := cell.cls, slots := cell.slots } : Cell) = vp_cell (E.2.1 20) (7, .inl (fun j => Int32.ofInt (zTFf j))) := by
    rw [vp_cell_i, hcA]
    unfold arrV
    congr 1
    apply Array.ext_getElem?
    intro i
    by_cases hi7 : i < 7
    · rw [g5 i hi7]
      simp [hi7]
      rfl
    · rw [Array.getElem?_eq_none (by omega), Array.getElem?_eq_none (by simp; omega)]
  show W p l e Rm s m args below meth co H locs cells slots Q (F0 m pc rls (Value.ref (zad E (1000000 + 3)) :: st.map (zval E)))
  rw [zad_st]
  intro T hT2 X
  obtain ⟨hobj, kA, hkA, comp, hkind⟩ := State.isArrayOf_alike X.warmed.alike g2
  obtain ⟨-, kS, hkS, compS, hkindS⟩ := id g2
  obtain ⟨vm', X', stp⟩ := X.cloneArray hx hown (hts _ hwm) (hts _ wE_clone) (hts _ wX_Ob_clone) (hts _ wI_Ob_clone) (hts _ wV_AI_clone) (a := E.2.2.2.1 3) (cell := cell) (by rw [hT2]; exact hcell) hobj g3 hc2 f2 f3
    (fun i v hv => by
      have hi7 : i < 7 := by have := (Array.getElem?_eq_some_iff.mp hv).1; omega
      rw [g5 i hi7] at hv
      cases hv
      simp [State.fitsSlot, State.slotType?, hkA, hkind, fits])
    (g := F0 m pc rls (.ref (E.2.2.2.1 3) :: st.map (zval E))) rfl (hsz.trans hml.symm) rfl (by rw [hb]; exact hi) (by omega) (by show 2 * 0 + _ + 14 ≤ _; rw [zmapcat]; omega) hcells (by rw [hsz7]; exact hslots) (hloader := Vm.clonesLoader_of_array hkS hkindS)
  rw [hsz7] at X'
  have hk1 : (znew F n (20, 7, fun _ => 0) n).1 = 20 := by rw [znew_self]
  have hH : ((T.setVm vm').pushCell { cls := cell.cls, slots := cell.slots }).heap = H.push (vp_cell (E.2.1 20) (7, .inl (fun j => Int32.ofInt (zTFf j)))) := by
    rw [hcellE, ← hT2]; rfl
  have hs2 : H.size = zB E + n := hR.1
  have hz := kk (H.push (vp_cell (E.2.1 20) (7, .inl (fun j => Int32.ofInt (zTFf j))))) locs (hok.tl.cons (v := zR n) trivial) (zRep_new hR hn9 (by
      rw [zarr20 hk1, znew_self, zrow_self]
      show (H.push _)[zB E + n]? = some (vp_cell _ _)
      rw [← hs2]; simp) (by simp [hs2]) (fun q hq => by rw [Array.getElem?_push, if_neg (by omega)]) (fun b hb => znew_ne hb) (fun b hb => zrow_ne hb) ⟨(zok20 hk1).mpr fun q => by
        rw [zrow_self]
        rcases Nat.lt_or_ge q 7 with h7 | h7
        · have : ∀ q, q < 7 → -2147483648 ≤ zTFf q ∧ zTFf q ≤ 2147483647 := by decide
          exact this q h7
        · have e7 : zTFf q = 0 := by
            unfold zTFf
            rw [List.getD_eq_getElem?_getD, List.getElem?_eq_none (show zTF.length ≤ q from h7)]; rfl
          rw [e7]; decide, by rw [znew_self]; decide⟩) hL
  rw [List.map_cons, show zval E (zR n) = Value.ref (zB E + n) from congrArg Value.ref (zad_lt (Nat.lt_succ_self n) (by omega))] at hz
  obtain ⟨t, b1, b2⟩ := hz _ hH X'
  refine ⟨t, stp t ?_, b2⟩
  rw [hT2, hs2]
  exact b1) k
end ZCg
