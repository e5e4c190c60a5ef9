/-! ===== calls ===== -/
def zrm (d : Nat) (M : zM) (R : zRes) : Room := { frames := d + 1, cells := R.2.2.2.1 - M.2.2.1, slots := R.2.2.2.2 - M.2.2.2, locals := 64 * (d + 1) }
def zPc (E : zE) (as : List zV) (M : zM) : Array Value → State → Prop := fun v U => v = (as.map (zval E)).toArray ∧ zRep E M U.heap ∧ zKn E U
def zQc (E : zE) (R : zRes) : Array Value → State → Outcome → State → Prop := fun _ _ o t => o = .returned (R.1.map (zval E)) ∧ zRep E R.2 t.heap ∧ ∀ v ∈ R.1.toList, zvk v
def zwd (Y : zY) : List Cond := Cond.code Y.1 Y.2.1 Y.2.2.1 Y.2.2.2.1 :: zgood
/-- what a caller may use of a method: it takes these values over this memory to that result -/
def zMet (l : Launch) (E : zE) (d : Nat) (Y : zY) (as : List zV) (M : zM) (R : zRes) : Prop :=
  (M.2.2.1 ≤ R.2.2.2.1 ∧ M.2.2.2 ≤ R.2.2.2.2) ∧ ((∀ v ∈ as, zvk v) → Met l Y.1 (zwd Y) (zrm d M R) (zPc E as M) (zQc E R) (R.2.2.2.1 - M.2.2.1) (R.2.2.2.2 - M.2.2.2) (zA E))
def zargs (k : Nat) (vs : List zV) : zLs := match vs with
  | [] => []
  | v :: r => (k, v) :: zargs (if zcat v = 2 then k + 2 else k + 1) r
theorem zargs_lv (E : zE) : ∀ (vs : List zV) (k : Nat), lv_args k (vs.map (zval E)) = zlv E (zargs k vs) := by
  intro vs
  induction vs with
  | nil => intro k; rfl
  | cons v r ih =>
    intro k
    simp only [List.map_cons, lv_args, zargs, zlv, List.map_cons, zcat_val]
    rw [ih]
    rfl
theorem zargs_ok {vs : List zV} (h : ∀ v ∈ vs, zvk v) : ∀ k, zoks (zargs k vs) [] := by
  induction vs with
  | nil => intro k; exact ⟨(fun q hq => absurd hq List.not_mem_nil), (fun q hq => absurd hq List.not_mem_nil)⟩
  | cons v r ih =>
    intro k
    refine ⟨fun q hq => ?_, fun q hq => by cases hq⟩
    rcases List.mem_cons.mp hq with rfl | hq
    · exact h v List.mem_cons_self
    · exact (ih (fun w hw => h w (List.mem_cons_of_mem _ hw)) _).1 q hq
def zwid (vs : List zV) : Nat := (vs.map zcat).sum
theorem zwid_sl (E : zE) (vs : List zV) : (lg_sl (vs.map (zval E))).length = zwid vs := by
  induction vs with
  | nil => rfl
  | cons v r ih =>
    simp only [List.map_cons, lg_sl, List.flatMap_cons, List.length_append, zwid, List.sum_cons, zcat_val] at ih ⊢
    rw [ih]
    rcases v with z | z | _ | a <;> rfl
theorem zW_call {p : Program} {l : Launch} {e : Env} {R : Room} {s : State} {m : MethodId} {args : Array Value} {below : List Frame} {meth : Method} {c : Code} {H : Heap} {locs : List Loc} {cells slots mc ms : Nat} {Q : State → Prop} {g : JFrame} {rest : List Value} {Qa : State → Outcome → State → Prop} {free : Addr → Prop} (hr : CallRun p l e R s m args below meth c H locs cells slots mc ms g rest Qa free)
    (kk : ∀ (v : Option Value) (st₀ t : State) (L : List Loc), (∀ q ∈ L, free q.base) → Qa st₀ (.returned v) t → W p l e R s m args below meth c t.heap (locs ++ L) (cells + mc) (slots + ms) Q { g with pc := g.pc + 3, stack := v.toList ++ rest }) : W p l e R s m args below meth c H locs cells slots Q g := by
  intro T hT X
  obtain ⟨v, st₀, t, T', L, h0, X', hL, e1, hq, st⟩ := hr T hT X
  obtain ⟨t2, a1, b1⟩ := kk v st₀ t L hL hq T' e1 X'
  exact ⟨t2, st t2 a1, b1⟩
theorem zMet_of {l : Launch} {E : zE} {d : Nat} {Y : zY} {as : List zV} {M : zM} {R : zRes} (hY : plainFor Y.1 = true) (hT : ∀ q ∈ Y.2.2.2.2, decode Y.2.1 q.1 = .ok q.2) (hw : zwid as ≤ Y.2.2.1) (h : zT l E d Y 0 (zargs 0 as) [] M R) : zMet l E d Y as M R := by
  obtain ⟨hm, hk⟩ := h
  refine ⟨hm, fun ho => va_MetF (cc := Y.2.1) (maxL := Y.2.2.1) (ret := Y.2.2.2.1) hY rfl ?_⟩
  intro p e s m args below meth c s₁ B hml hv
  obtain ⟨rfl, hR, hK⟩ := hv
  have hx := B.exec
  have hb := B.bytes
  have hr := B.returns
  have hts := atoms_spec (ws := zwd Y) B.pre
  have hown : s.vm.findClass Y.1.cls = some m.cls := findClass_of_methodNamed B.named
  have hlocks := B.notSynchronized
  have hname : meth.name = Y.1.name := (name_of_methodNamed B.named B.method).1
  have hl := lv_entry (as.map (zval E)) (n := Y.2.2.1) (by rw [zwid_sl]; exact hw)
  rw [lg_entry_eq]
  rw [zargs_lv] at hl
  have hC : zCx l E d Y M.2.2.1 p (headSpec (zwd Y) (zrm d M R)).room s m (as.map (zval E)).toArray meth c :=
    ⟨hx, hb, hml, hown, hname, fun w hw => hts w (List.mem_cons_of_mem _ hw), hK, Nat.le_refl _, Nat.le_refl _, hT, hR.1, hR.2.2.1⟩
  have hz := hk (zargs_ok ho 0) p e (headSpec (zwd Y) (zrm d M R)).room s m (as.map (zval E)).toArray below meth c s.heap [] (MQ below (zQc E R) (as.map (zval E)).toArray s (R.2.2.2.1 - M.2.2.1) (R.2.2.2.2 - M.2.2.2) (zA E)) _ M.2.2.1 M.2.2.2 hC hR (fun q hq => by cases hq) hl ⟨Nat.le_refl _, Nat.le_refl _, Nat.le_refl _, Nat.le_refl _⟩ ?_
  · rw [Nat.sub_self, Nat.sub_self] at hz
    exact hz
  · intro pcr H' locs' rls' hd hvk hR' hL'
    obtain ⟨rv, M'⟩ := R
    obtain ⟨hv1, hv2⟩ := hvk
    have hq : ∀ t : State, t.heap = H' → zQc E (rv, M') (as.map (zval E)).toArray s (.returned (rv.map (zval E))) t := fun t ht => ⟨rfl, by rw [ht]; exact hR', hv1⟩
    rcases rv with _ | z | z | o
    · have hr2 : meth.sig.returnType = none := by
        rw [hr]; revert hv2; unfold zretok
        cases Y.2.2.2.1 with
        | none => intro _; rfl
        | some t => intro h; simp at h
      exact W.vret hx hb hr2 (fun t ht _ => hq t ht) hL' hd hlocks
    · cases hrt : Y.2.2.2.1 with
      | none => rw [hrt] at hv2; simp [zretok] at hv2
      | some t =>
        rw [hrt] at hv2 hr
        have hn : narrow t (.int (Int32.ofInt z)) = .int (Int32.ofInt z) := by
          simpa [zretok] using hv2
        exact W.zret hx hb hr hn (fun t ht _ => hq t ht) hL' hd hlocks
    · have hr2 : meth.sig.returnType = some .long := by
        rw [hr]; revert hv2; unfold zretok
        cases hrt : Y.2.2.2.1 with
        | none => intro h; simp at h
        | some t => cases t <;> simp
      exact W.lret hx hb hr2 (fun t ht _ => hq t ht) hL' hd hlocks
    · obtain ⟨rt, hr2, hrt2⟩ : ∃ rt, meth.sig.returnType = some rt ∧ ((∃ n, rt = .object n) ∨ ∃ t, rt = .array t) := by
        rw [hr]; revert hv2; unfold zretok
        cases hrt : Y.2.2.2.1 with
        | none => intro h; simp at h
        | some t => cases t <;> simp
      have hv9 : zval E (zP o) = .null ∨ ∃ a, zval E (zP o) = .ref a := by cases o; exact Or.inl rfl; exact Or.inr ⟨_, rfl⟩
      have hq9 : ∀ t : State, t.heap = H' → s.WarmedH t.vm → zQc E (some (zP o), M') (as.map (zval E)).toArray s (.returned (some (zval E (zP o)))) t := fun t ht _ => hq t ht
      exact W.aret hx hb hr2 hrt2 hv9 hq9 hL' hd hlocks
section ZC
variable {α β : Type} {l : Launch} {E : zE} {d : Nat} {Y Y' : zY} {pc : Nat} {ls : zLs} {st : List zV} {M : zM} {cv : α → zRes} {cw : β → zRes} {y : Option β} {g : β → Option α}
theorem zQ_blind (as : List zV) : FrameBlind (zPc E as M) := fun a U g mk h => ⟨h.1, h.2.1, h.2.2.warm (U := U.calling g mk a) (State.WarmedH.refl U)⟩
theorem zP_pre {s : State} {H : Heap} (as : List zV) (hR : zRep E M H) (hK : zKn E s) : ∀ U : State, U.heap = H → s.WarmedH U.vm → zPc E as M (as.map (zval E)).toArray U := fun U hU hW => ⟨rfl, by rw [hU]; exact hR, hK.warm hW⟩
/-- the step behind a call, for all kinds of call -/
theorem zO_call0 {pc' : Nat} {as rest : List zV}
    (hM : ∀ r, y = some r → zMet l E d Y' as M (cw r))
    (hrun : ∀ r, y = some r → ∀ (p : Program) (e : Env) (Rm : Room) (s : State) (m : MethodId) (args : Array Value) (below : List Frame) (meth : Method) (c : Code) (H : Heap) (locs : List Loc) (rls : Array Slot) (n0 : Nat) (cells slots : Nat), zCx l E (d + 1) Y n0 p Rm s m args meth c → zRep E M H → (∀ q ∈ locs, zA E q.base) → n0 ≤ M.2.2.1 → rls.size = Y.2.2.1 → (∀ v ∈ as, zvk v) → cells + ((cw r).2.2.2.1 - M.2.2.1) ≤ Rm.cells ∧ slots + ((cw r).2.2.2.2 - M.2.2.2) ≤ Rm.slots → CallRun p l e Rm s m args below meth c H locs cells slots ((cw r).2.2.2.1 - M.2.2.1) ((cw r).2.2.2.2 - M.2.2.2) (F0 m pc rls (st.map (zval E))) (rest.map (zval E)) (zQc E (cw r) (as.map (zval E)).toArray) (zA E))
    (hpc : pc' = pc + 3) (hsub : ∀ ls', zoks ls' st → zoks ls' rest ∧ ∀ v ∈ as, zvk v) (k : ∀ r, y = some r → zO l E (d + 1) Y pc' ls ((cw r).1.toList ++ rest) (cw r).2 cv (g r)) : zO l E (d + 1) Y pc ls st M cv (y.bind g) := by
  intro r hr
  cases hy : y with
  | none => rw [hy] at hr; cases hr
  | some b =>
    rw [hy] at hr
    have hMb := hM b hy
    obtain ⟨hm2, hk2⟩ := k b hy r hr
    obtain ⟨hm1, -⟩ := hMb
    refine ⟨⟨Nat.le_trans hm1.1 hm2.1, Nat.le_trans hm1.2 hm2.2⟩, fun hok p e Rm s m args below meth c H locs Q rls n0 s0 hC hR hL hl hn hq => ?_⟩
    have hrun2 := hrun b hy p e Rm s m args below meth c H locs rls n0 (M.2.2.1 - n0) (M.2.2.2 - s0) hC hR hL hn.1 hl.1 (hsub ls hok).2 ⟨by omega, by omega⟩
    refine zW_call hrun2 fun v st₀ t L hL2 hQ => ?_
    obtain ⟨ho, hR2, hvb⟩ := hQ
    cases ho
    rw [show M.2.2.1 - n0 + ((cw b).2.2.2.1 - M.2.2.1) = (cw b).2.2.2.1 - n0 by omega, show M.2.2.2 - s0 + ((cw b).2.2.2.2 - M.2.2.2) = (cw b).2.2.2.2 - s0 by omega]
    have hok2 : zoks ls ((cw b).1.toList ++ rest) := ⟨hok.1, fun v hv => by
      rcases List.mem_append.mp hv with h | h
      · exact hvb v h
      · exact (hsub ls hok).1.2 v h⟩
    have hz := hk2 hok2 p e Rm s m args below meth c t.heap (locs ++ L) Q rls n0 s0 hC hR2 (fun q hq => by
      rcases List.mem_append.mp hq with h | h
      · exact hL q h
      · exact hL2 q h) hl ⟨by omega, by omega, hn.2.2.1, hn.2.2.2⟩ hq
    subst hpc
    have est : ((cw b).1.toList ++ rest).map (zval E) = ((cw b).1.map (zval E)).toList ++ rest.map (zval E) := by
      cases (cw b).1 <;> simp
    rw [est] at hz
    exact hz
theorem zmapcat (rest : List zV) : ((rest.map (zval E)).map fun v => v.category).sum = zwid rest := by
  simp only [List.map_map, zwid]
  congr 1
  apply List.map_congr_left
  intro v _
  exact zcat_val E v
abbrev zdesc (Y' : zY) (n : Nat) : Prop := Y'.1.cls ≠ "java/lang/invoke/MethodHandle" ∧ Y'.1.cls ≠ "java/lang/invoke/VarHandle" ∧ (parseMethodDescriptor Y'.1.desc).map (fun d => d.parameters.length) = some n
theorem zcallB {Rm : Room} {s : State} {args : Array Value} {n0 : Nat} {p : Program} {m : MethodId} {meth : Method} {c : Code} {j n : Nat} {R : zRes} (hC : zCx l E (d + 1) Y n0 p Rm s m args meth c) (hwc : Cond.code Y'.1 Y'.2.1 Y'.2.2.1 Y'.2.2.2.1 ∈ zgood) (hwn : Cond.initialized Y'.1.cls ∈ zgood) (hwm : Cond.methodLink Y.1.cls j Y'.1 ∈ zgood) (hml : Y'.2.2.1 ≤ 45) (hd : zdesc Y' n) :
    CallB Rm s args Y.1.cls j Y'.1 Y'.2.1 Y'.2.2.1 Y'.2.2.2.1 (zwd Y') (zrm d M R) (R.2.2.2.1 - M.2.2.1) (R.2.2.2.2 - M.2.2.2) n := by
  obtain ⟨hx, hb, hml0, hown, hnm, hts, hK, hf1, hf2, hT, hh1, hh2⟩ := id hC
  have hG : GoodIn zgood (zwd Y') := fun w hw => by
    rcases List.mem_cons.mp hw with rfl | hw
    · exact zg_self _ hwc
    · exact zg_self _ hw
  exact callB_of (Ts := zgood) n hts hG rfl rfl rfl (hts _ hwn) (hts _ hwm) hd ⟨hf1, by show 8 + (Y'.2.2.1 + 11) + 64 * (d + 1) ≤ Rm.locals; omega⟩
/-- a static method -/
theorem zO_callS {as rest : List zV} {j : Nat} (hi : decode Y.2.1 pc = .ok (.invokestatic j, 3)) (hwc : Cond.code Y'.1 Y'.2.1 Y'.2.2.1 Y'.2.2.2.1 ∈ zgood) (hwn : Cond.initialized Y'.1.cls ∈ zgood) (hwm : Cond.methodLink Y.1.cls j Y'.1 ∈ zgood) (hws : Cond.static Y'.1 ∈ zgood) (hml : Y'.2.2.1 ≤ 45) {na : Nat} (hd0 : zdesc Y' na) (hna : as.length = na) (hst : st = as.reverse ++ rest) (hw8 : zwid rest ≤ 8)
    (hM : ∀ r, y = some r → zMet l E d Y' as M (cw r)) (k : ∀ r, y = some r → zO l E (d + 1) Y (pc + 3) ls ((cw r).1.toList ++ rest) (cw r).2 cv (g r)) : zO l E (d + 1) Y pc ls st M cv (y.bind g) := by
  refine zO_call0 (as := as) (rest := rest) hM (fun r hr p e Rm s m args below meth c H locs rls n0 cells slots hC hR hL hn hsz hav hcs => ?_) rfl (fun ls' h => ⟨⟨h.1, fun v hv => h.2 v (by rw [hst]; exact List.mem_append_right _ hv)⟩, fun v hv => h.2 v (by rw [hst]; exact List.mem_append_left _ (List.mem_reverse.mpr hv))⟩) k
  obtain ⟨hx, hb, hml0, hown, hnm, hts, hK, hf1, hf2, hT, hh1, hh2⟩ := id hC
  have hMet := (hM r hr).2 hav
  have hd : zdesc Y' as.length := by rw [hna]; exact hd0
  exact W.runS (Ts := zgood) (nL := Y.2.2.1) (As := as.map (zval E)) ⟨hx, hb, hml0, hown, hts⟩ hMet ⟨zcallB hC hwc hwn hwm hml hd, hts _ hws⟩ ⟨zQ_blind as, zP_pre as hR hK⟩ rfl (by simp) hsz (by subst hst; simp) (lv_room (by rw [zmapcat]; exact hw8)) hi hcs
/-- a method of an object -/
theorem zO_callV {as rest : List zV} {j a ci : Nat} {F : zFs} {D : zDa} {n sl : Nat} (hMM : M = (F, D, n, sl)) (hi : decode Y.2.1 pc = .ok (.invokevirtual j, 3)) (hwc : Cond.code Y'.1 Y'.2.1 Y'.2.2.1 Y'.2.2.2.1 ∈ zgood) (hwn : Cond.initialized Y'.1.cls ∈ zgood) (hwm : Cond.methodLink Y.1.cls j Y'.1 ∈ zgood) (hwi : Cond.instanceMethod Y'.1 ∈ zgood) (hwv : Cond.selects Y'.1.cls Y'.1 Y'.1 ∈ zgood) (hml : Y'.2.2.1 ≤ 45) {na : Nat} (hd0 : zdesc Y' na) (hna : as.length = na) (hst : st = as.reverse ++ zR a :: rest) (hw8 : zwid rest ≤ 8) (hcl : zcl[ci]? = some (Y'.1.cls, ztb ci, zfn ci)) (hci : ci < 13) (ha : (F a).1 = ci + 1)
    (hM : ∀ r, y = some r → zMet l E d Y' (zR a :: as) M (cw r)) (k : ∀ r, y = some r → zO l E (d + 1) Y (pc + 3) ls ((cw r).1.toList ++ rest) (cw r).2 cv (g r)) : zO l E (d + 1) Y pc ls st M cv (y.bind g) := by
  subst hMM
  refine zO_call0 (as := zR a :: as) (rest := rest) hM (fun r hr p e Rm s m args below meth c H locs rls n0 cells slots hC hR hL hn hsz hav hcs => ?_) rfl (fun ls' h => ⟨⟨h.1, fun v hv => h.2 v (by rw [hst]; exact List.mem_append_right _ (List.mem_cons_of_mem _ hv))⟩, fun v hv => by
    rcases List.mem_cons.mp hv with rfl | hv
    · trivial
    · exact h.2 v (by rw [hst]; exact List.mem_append_left _ (List.mem_reverse.mpr hv))⟩) k
  obtain ⟨hx, hb, hml0, hown, hnm, hts, hK, hf1, hf2, hT, hh1, hh2⟩ := id hC
  have hMet := (hM r hr).2 hav
  have hd : zdesc Y' as.length := by rw [hna]; exact hd0
  have hlt := zkind_lt hR ha (by omega)
  have e0 : (zws E F D n)[a]? = some (zB E + a, .inr (ci, zfs E F D a ci)) := by rw [zws_get hlt, zobj ha hci]
  have hrecv := va_recv hK.1 hR.2.1 hcl e0
  rw [← zad_lt (E := E) hlt hR.2.2.2.2.1] at hrecv
  exact W.runV (Ts := zgood) (nL := Y.2.2.1) (b := zad E a) (As := as.map (zval E)) ⟨hx, hb, hml0, hown, hts⟩ hMet ⟨zcallB hC hwc hwn hwm hml hd, hts _ hwi, hts _ hwv⟩ ⟨zQ_blind (zR a :: as), hrecv, zP_pre (zR a :: as) hR hK⟩ rfl (by simp) hsz (by subst hst; simp [zval]) (lv_room (by rw [zmapcat]; exact hw8)) hi hcs
/-- a method of one of the given texts -/
theorem zO_callT {as rest : List zV} {j j0 : Nat} (hi : decode Y.2.1 pc = .ok (.invokevirtual j, 3)) (hwc : Cond.code Y'.1 Y'.2.1 Y'.2.2.1 Y'.2.2.2.1 ∈ zgood) (hwn : Cond.initialized Y'.1.cls ∈ zgood) (hwm : Cond.methodLink Y.1.cls j Y'.1 ∈ zgood) (hwi : Cond.instanceMethod Y'.1 ∈ zgood) (hwv : Cond.selects Y'.1.cls Y'.1 Y'.1 ∈ zgood) (hml : Y'.2.2.1 ≤ 45) {na : Nat} (hd0 : zdesc Y' na) (hna : as.length = na) (hst : st = as.reverse ++ zR (1000000 + (10 + j0)) :: rest) (hw8 : zwid rest ≤ 8) (hcl : Y'.1.cls = "java/lang/String") (hj : j0 < 3)
    (hM : ∀ r, y = some r → zMet l E d Y' (zR (1000000 + (10 + j0)) :: as) M (cw r)) (k : ∀ r, y = some r → zO l E (d + 1) Y (pc + 3) ls ((cw r).1.toList ++ rest) (cw r).2 cv (g r)) : zO l E (d + 1) Y pc ls st M cv (y.bind g) := by
  refine zO_call0 (as := zR (1000000 + (10 + j0)) :: as) (rest := rest) hM (fun r hr p e Rm s m args below meth c H locs rls n0 cells slots hC hR hL hn hsz hav hcs => ?_) rfl (fun ls' h => ⟨⟨h.1, fun v hv => h.2 v (by rw [hst]; exact List.mem_append_right _ (List.mem_cons_of_mem _ hv))⟩, fun v hv => by
    rcases List.mem_cons.mp hv with rfl | hv
    · trivial
    · exact h.2 v (by rw [hst]; exact List.mem_append_left _ (List.mem_reverse.mpr hv))⟩) k
  obtain ⟨hx, hb, hml0, hown, hnm, hts, hK, hf1, hf2, hT, hh1, hh2⟩ := id hC
  have hMet := (hM r hr).2 hav
  have hd : zdesc Y' as.length := by rw [hna]; exact hd0
  have hrecv := vk_recv (hK.2.2.2.2.2.2.2.1.kept (zS2 hC)) hj (zS_of hC hR hL hn)
  rw [← zad_st E (10 + j0), ← hcl] at hrecv
  exact W.runV (Ts := zgood) (nL := Y.2.2.1) (b := zad E (1000000 + (10 + j0))) (As := as.map (zval E)) ⟨hx, hb, hml0, hown, hts⟩ hMet ⟨zcallB hC hwc hwn hwm hml hd, hts _ hwi, hts _ hwv⟩ ⟨zQ_blind (zR (1000000 + (10 + j0)) :: as), hrecv, zP_pre (zR (1000000 + (10 + j0)) :: as) hR hK⟩ rfl (by simp) hsz (by subst hst; simp [zval]) (lv_room (by rw [zmapcat]; exact hw8)) hi hcs
/-- a constructor -/
theorem zO_callI {as rest : List zV} {j a : Nat} (hi : decode Y.2.1 pc = .ok (.invokespecial j, 3)) (hwc : Cond.code Y'.1 Y'.2.1 Y'.2.2.1 Y'.2.2.2.1 ∈ zgood) (hwn : Cond.initialized Y'.1.cls ∈ zgood) (hwm : Cond.methodLink Y.1.cls j Y'.1 ∈ zgood) (hwi : Cond.instanceMethod Y'.1 ∈ zgood) (hni : Y'.1.name = "<init>") (hret : Y'.2.2.2.1 = none) (hml : Y'.2.2.1 ≤ 45) {na : Nat} (hd0 : zdesc Y' na) (hna : as.length = na) (hst : st = as.reverse ++ zR a :: rest) (hw8 : zwid rest ≤ 8)
    (hM : ∀ r, y = some r → zMet l E d Y' (zR a :: as) M (cw r)) (k : ∀ r, y = some r → zO l E (d + 1) Y (pc + 3) ls ((cw r).1.toList ++ rest) (cw r).2 cv (g r)) : zO l E (d + 1) Y pc ls st M cv (y.bind g) := by
  refine zO_call0 (as := zR a :: as) (rest := rest) hM (fun r hr p e Rm s m args below meth c H locs rls n0 cells slots hC hR hL hn hsz hav hcs => ?_) rfl (fun ls' h => ⟨⟨h.1, fun v hv => h.2 v (by rw [hst]; exact List.mem_append_right _ (List.mem_cons_of_mem _ hv))⟩, fun v hv => by
    rcases List.mem_cons.mp hv with rfl | hv
    · trivial
    · exact h.2 v (by rw [hst]; exact List.mem_append_left _ (List.mem_reverse.mpr hv))⟩) k
  obtain ⟨hx, hb, hml0, hown, hnm, hts, hK, hf1, hf2, hT, hh1, hh2⟩ := id hC
  have hMet := (hM r hr).2 hav
  have hd : zdesc Y' as.length := by rw [hna]; exact hd0
  have hcb := zcallB (M := M) (R := cw r) hC hwc hwn hwm hml hd
  rw [hret] at hcb
  exact W.runI (Ts := zgood) (nL := Y.2.2.1) (b := zad E a) (As := as.map (zval E)) ⟨hx, hb, hml0, hown, hts⟩ hMet ⟨hcb, hni, hts _ hwi⟩ ⟨zQ_blind (zR a :: as), zP_pre (zR a :: as) hR hK⟩ rfl (by simp) hsz (by subst hst; simp [zval]) (lv_room (by rw [zmapcat]; exact hw8)) hi hcs
end ZC
/-! ===== results, loops, lets ===== -/
def zcI (F : zFs) (n sl : Nat) (q : Int × zDa) : zRes := (some (zI q.1), (F, q.2, n, sl))
def zcJ (F : zFs) (n sl : Nat) (q : Int × zDa) : zRes := (some (zL q.1), (F, q.2, n, sl))
def zcQ (F : zFs) (n sl : Nat) (q : Int × zDa) : zRes := (some (zq q.1), (F, q.2, n, sl))
def zcV (F : zFs) (n sl : Nat) (D : zDa) : zRes := (none, (F, D, n, sl))
def zmI (q : Int × zM) : zRes := (some (zI q.1), q.2)
def zmJ (q : Int × zM) : zRes := (some (zL q.1), q.2)
def zmQ (q : Int × zM) : zRes := (some (zq q.1), q.2)
def zmV (M : zM) : zRes := (none, M)
def zfu : Nat := 1000000
def zfix {α : Type} (bot : α) (step : α → α) (N : Nat) : α := match N with
  | 0 => bot
  | N + 1 => step (zfix bot step N)
def zlet {α β : Type} (e : α) (g : α → β) : β := g e
section ZLet
variable {α : Type} {l : Launch} {E : zE} {d : Nat} {Y : zY} {pc : Nat} {ls : zLs} {st : List zV} {F : zFs} {D : zDa} {n sl : Nat} {cv : α → zRes} {M : zM}
theorem zO_letI {e : Int} {g : Int → Option α} (k : ∀ v, v = e → zO l E d Y pc ls (zI v :: st) M cv (g v)) : zO l E d Y pc ls (zI e :: st) M cv (zlet e g) := k e rfl
theorem zO_letJ {e : Int} {g : Int → Option α} (k : ∀ v, v = e → zO l E d Y pc ls (zL v :: st) M cv (g v)) : zO l E d Y pc ls (zL e :: st) M cv (zlet e g) := k e rfl
theorem zO_letQ {e : Int} {g : Int → Option α} (k : ∀ v, v = e → zO l E d Y pc ls (zq v :: st) M cv (g v)) : zO l E d Y pc ls (zq e :: st) M cv (zlet e g) := k e rfl
theorem zO_letD {g : zDa → Option α} (k : ∀ D1, D1 = D → zO l E d Y pc ls st (F, D1, n, sl) cv (g D1)) : zO l E d Y pc ls st (F, D, n, sl) cv (zlet D g) := k D rfl
theorem zretQ (z : Int) : zretI (some (zq z)) = .areturn := rfl
theorem zO_retQ {r : α} {z : Int} (hi : decode Y.2.1 pc = .ok (.areturn, 1)) (ho : zretok Y.2.2.2.1 (some (zq z))) (hr : cv r = (some (zq z), M)) : zO l E d Y pc ls [zq z] M cv (some r) := zO_ret (rv := some (zq z)) (by rw [zretQ]; exact hi) rfl ho hr
theorem zretok_q {t : FieldType} (z : Int) (ht : (∃ u, t = .array u) ∨ ∃ u, t = .object u) : zretok (some t) (some (zq z)) := by
  rcases ht with ⟨u, rfl⟩ | ⟨u, rfl⟩ <;> trivial
theorem zretok_z {z : Int} (h : z = 0 ∨ z = 1) : zretok (some .boolean) (some (zI z)) := by rcases h with rfl | rfl <;> rfl
theorem zretok_b {z : Int} (h : -128 ≤ z ∧ z ≤ 127) : zretok (some .byte) (some (zI z)) := by
  have h1 := z8_32 h
  show narrow .byte (.int (Int32.ofInt z)) = .int (Int32.ofInt z)
  rw [← h1]
  have e2 : (Int8.ofInt z).toInt32 = ((Int8.ofInt z).toInt32).toInt8.toInt32 := by simp
  rw [e2]; exact pk_nb _
end ZLet
