/-! ===== instructions that read or write the memory ===== -/
def zset (r : Nat → Int) (k : Nat) (v : Int) : Nat → Int := fun k' => if k' = k then v else r k'
def zrow (D : zDa) (a : Nat) (r : Nat → Int) : zDa := fun a' => if a' = a then r else D a'
def zwr (D : zDa) (a k : Nat) (v : Int) : zDa := fun a' k' => if a' = a then (if k' = k then v else D a k') else D a' k'
theorem zwr_ne {D : zDa} {a k b : Nat} {v : Int} (h : b ≠ a) : zwr D a k v b = D b := by
  funext j; simp [zwr, h]
theorem zwr_self {D : zDa} {a k : Nat} {v : Int} : zwr D a k v a = zset (D a) k v := by
  funext j; simp [zwr, zset]
theorem zws_get {E : zE} {F : zFs} {D : zDa} {n a : Nat} (h : a < n) : (zws E F D n)[a]? = some (zB E + a, zent E F D a) := by
  simp [zws, h]
theorem zws_some {E : zE} {F : zFs} {D : zDa} {n a : Nat} {q : Nat × va_E} (h : (zws E F D n)[a]? = some q) : a < n ∧ q = (zB E + a, zent E F D a) := by
  have hl : a < (zws E F D n).length := (List.getElem?_eq_some_iff.mp h).1
  have hn : a < n := by simpa [zws] using hl
  rw [zws_get hn] at h
  exact ⟨hn, (Option.some.inj h).symm⟩
theorem zent_congr {E : zE} {F F' : zFs} {D D' : zDa} {a : Nat} (hF : F' a = F a) (hD : D' a = D a) : zent E F' D' a = zent E F D a := by
  unfold zent zfs zfv
  simp only [hF, hD]
theorem zcok_congr {F F' : zFs} {D D' : zDa} {a : Nat} (hF : F' a = F a) (hD : D' a = D a) : zcok F' D' a ↔ zcok F D a := by
  unfold zcok zfv
  simp only [hF, hD]
theorem zws_D (E : zE) (F : zFs) (D : zDa) (n : Nat) : va_D (zA E) (zws E F D n) := by
  refine ⟨fun i j p q hp hq e => ?_, fun k q hq => ?_⟩
  · obtain ⟨-, rfl⟩ := zws_some hp
    obtain ⟨-, rfl⟩ := zws_some hq
    exact Nat.add_left_cancel e
  · obtain ⟨-, rfl⟩ := zws_some hq
    exact Nat.le_add_right _ _
theorem zS_of {l : Launch} {E : zE} {d : Nat} {Y : zY} {n0 : Nat} {p : Program} {R : Room} {s : State} {m : MethodId} {args : Array Value} {meth : Method} {c : Code} {M : zM} {H : Heap} {locs : List Loc} (hC : zCx l E d Y n0 p R s m args meth c) (hR : zRep E M H) (hL : ∀ q ∈ locs, zA E q.base) (hn : n0 ≤ M.2.2.1) : va_S (zA E) s.heap H locs := by
  obtain ⟨hx, hb, hml, hown, hnm, hts, hK, hf1, hf2, hT, hh1, hh2⟩ := hC
  refine ⟨by rw [hh1, hR.1]; omega, fun q hq hA => ?_, hL⟩
  have hq2 : q < zB E := Nat.lt_of_not_le hA
  rw [hR.2.2.1 q hq2, hh2 q hq2]
/-- one cell changed -/
theorem zRep_set {E : zE} {F : zFs} {D D' : zDa} {n sl a : Nat} {H H' : Heap} (hR : zRep E (F, D, n, sl) H) (ha : a < n) (hat : va_at E.1 zcl (zB E + a, zent E F D' a) H') (hsz : H'.size = H.size) (ho : ∀ q : Nat, q ≠ zB E + a → H'[q]? = H[q]?) (hD : ∀ b, b ≠ a → D' b = D b) (hok : zcok F D' a) : zRep E (F, D', n, sl) H' := by
  obtain ⟨h1, h2, h3, h4, h5, h6⟩ := hR
  refine ⟨by rw [hsz]; exact h1, fun k q hq => ?_, fun q hq => ?_, fun b hb => ?_, h5, h6⟩
  · obtain ⟨hk, rfl⟩ := zws_some hq
    by_cases hka : k = a
    · subst hka; exact hat
    · have hz := h2 k _ (zws_get hk)
      rw [zent_congr (F' := F) rfl (hD k hka)]
      exact hz.kept (ho _ (by show zB E + k ≠ zB E + a; omega))
  · rw [ho q (by omega)]; exact h3 q hq
  · by_cases hba : b = a
    · subst hba; exact ⟨hok, (h4 b hb).2⟩
    · exact ⟨(zcok_congr (F' := F) rfl (hD b hba)).mpr (h4 b hb).1, (h4 b hb).2⟩
theorem zkind_lt {E : zE} {F : zFs} {D : zDa} {n sl a k : Nat} {H : Heap} (hR : zRep E (F, D, n, sl) H) (hk : (F a).1 = k) (h0 : k ≠ 0) : a < n := by
  rcases Nat.lt_or_ge a n with q | q
  · exact q
  · exact absurd ((hR.2.2.2.2.2 a q).symm.trans hk).symm h0
theorem zad_lt {E : zE} {a n : Nat} (h : a < n) (h9 : n ≤ 900000) : zad E a = zB E + a := if_pos (by omega)
section ZW
variable {α : Type} {l : Launch} {E : zE} {d : Nat} {Y : zY} {pc : Nat} {ls : zLs} {st : List zV} {F : zFs} {D : zDa} {n sl : Nat} {cv : α → zRes} {x : Option α}
/-- an instruction that changes cells, but makes none -/
theorem zO_mem {M M' : zM} {pc' : Nat} {st' : List zV} (hM : M'.2.2 = M.2.2)
    (h : ∀ (p : Program) (e : Env) (Rm : Room) (s : State) (m : MethodId) (args : Array Value) (below : List Frame) (meth : Method) (c : Code) (H : Heap) (locs : List Loc) (cells slots : Nat) (Q : State → Prop) (rls : Array Slot) (n0 : Nat), zCx l E d Y n0 p Rm s m args meth c → zRep E M H → (∀ q ∈ locs, zA E q.base) → n0 ≤ M.2.2.1 → zoks ls st → rls.size = Y.2.2.1 → (∀ (H' : Heap) (locs' : List Loc), zoks ls st' → zRep E M' H' → (∀ q ∈ locs', zA E q.base) → W p l e Rm s m args below meth c H' locs' cells slots Q (F0 m pc' rls (st'.map (zval E)))) → W p l e Rm s m args below meth c H locs cells slots Q (F0 m pc rls (st.map (zval E))))
    (k : zO l E d Y pc' ls st' M' cv x) : zO l E d Y pc ls st M cv x := by
  intro r hr
  obtain ⟨hm, hk⟩ := k r hr
  rw [hM] at hm hk
  refine ⟨hm, fun hok p e Rm s m args below meth c H locs Q rls n0 s0 hC hR hL hl hn hq => ?_⟩
  exact h p e Rm s m args below meth c H locs _ _ Q rls n0 hC hR hL hn.1 hok hl.1 (fun H' locs' hok' hR' hL' => hk hok' p e Rm s m args below meth c H' locs' Q rls n0 s0 hC hR' hL' hl hn hq)
/-- an instruction that makes one cell -/
theorem zO_new {M M' : zM} {pc' : Nat} {st' : List zV} {w : Nat} (hM : M'.2.2 = (M.2.2.1 + 1, M.2.2.2 + w))
    (h : ∀ (p : Program) (e : Env) (Rm : Room) (s : State) (m : MethodId) (args : Array Value) (below : List Frame) (meth : Method) (c : Code) (H : Heap) (locs : List Loc) (cells slots : Nat) (Q : State → Prop) (rls : Array Slot) (n0 : Nat), zCx l E d Y n0 p Rm s m args meth c → zRep E M H → (∀ q ∈ locs, zA E q.base) → n0 ≤ M.2.2.1 → zoks ls st → rls.size = Y.2.2.1 → cells + 1 ≤ Rm.cells → slots + w ≤ Rm.slots → (∀ (H' : Heap) (locs' : List Loc), zoks ls st' → zRep E M' H' → (∀ q ∈ locs', zA E q.base) → W p l e Rm s m args below meth c H' locs' (cells + 1) (slots + w) Q (F0 m pc' rls (st'.map (zval E)))) → W p l e Rm s m args below meth c H locs cells slots Q (F0 m pc rls (st.map (zval E))))
    (k : zO l E d Y pc' ls st' M' cv x) : zO l E d Y pc ls st M cv x := by
  intro r hr
  obtain ⟨hm, hk⟩ := k r hr
  rw [hM] at hm hk
  dsimp only at hm hk
  refine ⟨⟨by omega, by omega⟩, fun hok p e Rm s m args below meth c H locs Q rls n0 s0 hC hR hL hl hn hq => ?_⟩
  refine h p e Rm s m args below meth c H locs _ _ Q rls n0 hC hR hL hn.1 hok hl.1 (by omega) (by omega) (fun H' locs' hok' hR' hL' => ?_)
  rw [show M.2.2.1 - n0 + 1 = M.2.2.1 + 1 - n0 by omega, show M.2.2.2 - s0 + w = M.2.2.2 + w - s0 by omega]
  exact hk hok' p e Rm s m args below meth c H' locs' Q rls n0 s0 hC hR' hL' hl ⟨by omega, by omega, hn.2.2⟩ hq
theorem zdec_ok {t : FieldType} {z : Int} (h : zfok t z) : zvk (zdec t z) := by
  cases t <;> simp only [zfok] at h <;> simp only [zdec, zvk]
  all_goals first | exact h | omega | trivial | (rcases h with rfl | rfl <;> decide)
theorem zobj {E : zE} {F : zFs} {D : zDa} {a c : Nat} (hk : (F a).1 = c + 1) (hc : c < 13) : zent E F D a = .inr (c, zfs E F D a c) := by
  unfold zent
  split <;> simp_all
theorem zobj_ok {F : zFs} {D : zDa} {a c : Nat} (hk : (F a).1 = c + 1) (hc : c < 13) : zcok F D a ↔ ∀ j, j < zfn c → zfok (zty c j) (zfv F D a c j) := by
  unfold zcok
  split <;> simp_all
  omega
/-- a field of an object -/
theorem zO_get {c k j : Nat} {C : String} {a : Nat} {v : zV} (hi : decode Y.2.1 pc = .ok (.getfield j, 3)) (hw : Cond.fieldLink Y.1.cls j (ztb c k).1 (ztb c k).2.1 (ztb c k).2.2.1 ∈ zgood) (hcl : zcl[c]? = some (C, ztb c, zfn c)) (hin : ∀ w ∈ u_ws C (ztb c) (zfn c), w ∈ zgood) (hk : k < zfn c) (hc : c < 13) (ha : (F a).1 = c + 1) (hv : zdec (zty c k) (zfv F D a c k) = v) (kk : zO l E d Y (pc + 3) ls (v :: st) (F, D, n, sl) cv x) : zO l E d Y pc ls (zR a :: st) (F, D, n, sl) cv x := zO_go (fun p e Rm s m args below meth co H locs cells slots Q rls n0 hC hR hL hn hok hl kk => by
  obtain ⟨hx, hb, hml, hown, hnm, hts, hK, hf1, hf2, hT, hh1, hh2⟩ := id hC
  have hlt := zkind_lt hR ha (by omega)
  have hr := hR.2.1 a _ (zws_get hlt)
  have hokc := ((zobj_ok ha hc).mp (hR.2.2.2.1 a hlt).1) k hk
  have hP := hR.2.1
  have e0 : (zws E F D n)[a]? = some (zB E + a, .inr (c, zfs E F D a c)) := by rw [zws_get hlt, zobj ha hc]
  show W p l e Rm s m args below meth co H locs cells slots Q (F0 m pc rls (Value.ref (zad E a) :: st.map (zval E)))
  rw [zad_lt hlt hR.2.2.2.2.1]
  refine va_get (own := Y.1.cls) (ref := (ztb c k).1) hx hb hts hin hown hK.1 hP a e0 hcl k hk (hts _ hw) (fun _ h => h) (v := zval E v) ?_ hi (kk rls (hok.tl.cons (by rw [← hv]; exact zdec_ok hokc)) hl)
  rw [← hv]
  simp [zfs, hk]) kk
theorem zdec_ref {t : FieldType} {z : Int} {b : Nat} (h : z = b) (ht : (∃ u, t = .array u) ∨ ∃ u, t = .object u) : zdec t z = zR b := by
  subst h
  rcases ht with ⟨u, rfl⟩ | ⟨u, rfl⟩ <;> exact zq_nat b
theorem zfs_set {E : zE} {F : zFs} {D D' : zDa} {a c k : Nat} {z : Int} (hk : k < zfn c) (h1 : zfv F D' a c k = z) (h2 : ∀ j, j ≠ k → zfv F D' a c j = zfv F D a c j) : (zfs E F D a c).set k (zval E (zdec (zty c k) z)) = zfs E F D' a c := by
  apply List.ext_getElem?
  intro j
  rw [List.getElem?_set]
  by_cases hj : k = j
  · subst hj
    simp [zfs, hk, h1]
  · rw [if_neg hj]
    simp only [zfs, List.getElem?_map]
    by_cases hj2 : j < zfn c
    · simp [hj2, h2 j (Ne.symm hj)]
    · simp [hj2]
theorem znarrow {t : FieldType} {z : Int} {E : zE} (h : zfok t z) : narrow t (zval E (zdec t z)) = zval E (zdec t z) ∧ fits t (zval E (zdec t z)) = true := by
  cases t <;> simp only [zfok] at h
  case byte =>
    have e : zval E (zdec .byte z) = .int (Int8.ofInt z).toInt32 := by show Value.int (Int32.ofInt z) = _; rw [z8_32 h]
    rw [e]
    have e2 : (Int8.ofInt z).toInt32 = ((Int8.ofInt z).toInt32).toInt8.toInt32 := by simp
    rw [e2]
    exact ⟨pk_nb _, pk_fb _⟩
  case boolean => rcases h with rfl | rfl <;> exact ⟨rfl, rfl⟩
  case int => exact ⟨rfl, rfl⟩
  case long => exact ⟨rfl, rfl⟩
  case object => simp only [zdec, zq]; split <;> exact ⟨rfl, rfl⟩
  case array => simp only [zdec, zq]; split <;> exact ⟨rfl, rfl⟩
/-- putfield, a field that isn't final -/
theorem zO_put {c k j : Nat} {C : String} {a : Nat} {v : zV} {z : Int} (hi : decode Y.2.1 pc = .ok (.putfield j, 3)) (hw : Cond.fieldLink Y.1.cls j (ztb c k).1 (ztb c k).2.1 (ztb c k).2.2.1 ∈ zgood) (hcl : zcl[c]? = some (C, ztb c, zfn c)) (hin : ∀ w ∈ u_ws C (ztb c) (zfn c), w ∈ zgood) (hty : ∀ k, k < zfn c → parseFieldDescriptor (ztb c k).2.2.1 = some (zty c k)) (hnm : ∀ a, a < zfn c → ∀ b, b < zfn c → a ≠ b → (ztb c a).2.1 ≠ (ztb c b).2.1) (hk : k < zfn c) (hc : c < 13) (hfin : (ztb c k).2.2.2 = false) (ha : (F a).1 = c + 1) (hv : v = zdec (zty c k) z) (hz : zfok (zty c k) z) (kk : zO l E d Y (pc + 3) ls st (F, zwr D a k z, n, sl) cv x) : zO l E d Y pc ls (v :: zR a :: st) (F, D, n, sl) cv x := zO_mem (M' := (F, zwr D a k z, n, sl)) rfl (fun p e Rm s m args below meth co H locs cells slots Q rls n0 hC hR hL hn hok hsz kk => by
  obtain ⟨hx, hb, hml, hown, hnm0, hts, hK, hf1, hf2, hT, hh1, hh2⟩ := id hC
  have hlt := zkind_lt hR ha (by omega)
  have hK0 := hK.1
  have hP := hR.2.1
  have e0 : (zws E F D n)[a]? = some (zB E + a, .inr (c, zfs E F D a c)) := by rw [zws_get hlt, zobj ha hc]
  have hap := va_apart (own := Y.1.cls) hts hin (zty c) hty hnm hK0 hcl
  obtain ⟨r, h1, cell, q1, q2, q3, q4⟩ := hP a _ e0
  have hr : r = (C, ztb c, zfn c) := Option.some.inj (h1.symm.trans hcl)
  subst hr
  obtain ⟨hS, hfc, kC, hkC, hkind⟩ := hK0.1 c _ hcl
  obtain ⟨cf, kf, fi, f, hif, hsl⟩ := hS k hk
  have hlay := hts _ (hin _ (u_in_lay hk))
  unfold u_lay at hlay
  rw [if_neg (by rw [hfin]; decide)] at hlay
  have hst := (u_facts hfc hkC (u_lays hts hin hk) hif).1
  obtain ⟨n1, n2⟩ := znarrow (E := E) hz
  have h6 := u_store hfc hkC hkind hlay hif (hty k hk) n1 n2
  subst hv
  show W p l e Rm s m args below meth co H locs cells slots Q (F0 m pc rls (zval E (zdec (zty c k) z) :: Value.ref (zad E a) :: st.map (zval E)))
  rw [zad_lt hlt hR.2.2.2.2.1]
  refine W.putK hx hb (f := f) ⟨hown, hts _ hw, ⟨_, _, _, hif⟩, hst⟩ (by rw [q2]; exact h6) q1 q3 (by rw [hsl]; exact k2_hasslot (q4 k hk)) rfl rfl hi fun H' e1 e2 e3 => ?_
  rw [hsl] at e1 ⊢
  have hf1 : zfv F (zwr D a k z) a c k = z := by simp [zfv, hfin, zwr]
  have hf2 : ∀ j, j ≠ k → zfv F (zwr D a k z) a c j = zfv F D a c j := fun j hj => by simp [zfv, zwr, hj]
  refine kk H' _ hok.tl.tl (zRep_set hR hlt ?_ e2 e3 (fun b hb => zwr_ne hb) ?_) (fun q hq => ?_)
  · rw [zobj ha hc, ← zfs_set hk hf1 hf2]
    exact ⟨_, hcl, t_OB.to (V := updV (vp_V (zfs E F D a c)) k (zval E (zdec (zty c k) z))) ⟨_, e1, q2, q3, t_set q4 hap hk _⟩ (fun j _ => vp_updV_set (by simpa [zfs] using hk) _ j)⟩
  · rw [zobj_ok ha hc]
    intro j hj
    by_cases hjk : j = k
    · subst hjk; rw [hf1]; exact hz
    · rw [hf2 j hjk]; exact (zobj_ok ha hc).mp (hR.2.2.2.1 a hlt).1 j hj
  · rcases List.mem_append.mp hq with h | h
    · exact hL q h
    · rw [List.mem_singleton] at h; subst h; exact Nat.le_add_right _ _) kk
end ZW
