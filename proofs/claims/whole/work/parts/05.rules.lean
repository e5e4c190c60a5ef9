/-! ===== instructions that leave the memory alone (printed by wip/gen/rules.py) ===== -/
def zand (a b : Int) : Int := (Int32.ofInt a &&& Int32.ofInt b).toInt
def zor (a b : Int) : Int := (Int32.ofInt a ||| Int32.ofInt b).toInt
def zxor (a b : Int) : Int := (Int32.ofInt a ^^^ Int32.ofInt b).toInt
def zshl (a b : Int) : Int := (Int32.ofInt a <<< (Int32.ofInt b &&& 31)).toInt
def zshr (a b : Int) : Int := (Int32.ofInt a >>> (Int32.ofInt b &&& 31)).toInt
def zushr (a b : Int) : Int := (((Int32.ofInt a).toUInt32 >>> ((Int32.ofInt b).toUInt32 &&& Int32.toUInt32 31)).toInt32).toInt
def zandl (a b : Int) : Int := (Int64.ofInt a &&& Int64.ofInt b).toInt
def zorl (a b : Int) : Int := (Int64.ofInt a ||| Int64.ofInt b).toInt
def zshll (a b : Int) : Int := (Int64.ofInt a <<< ((Int32.ofInt b).toInt64 &&& 63)).toInt
def zushrl (a b : Int) : Int := (((Int64.ofInt a).toUInt64 >>> ((Int32.ofInt b).toInt64.toUInt64 &&& Int64.toUInt64 63)).toInt64).toInt
def zl2i (a : Int) : Int := ((Int64.ofInt a).toInt32).toInt
def zi2b (a : Int) : Int := ((Int32.ofInt a).toInt8.toInt32).toInt
def zi2c (a : Int) : Int := (((Int32.ofInt a).toUInt32 % 65536).toInt32).toInt
theorem z8_32 {n : Int} (h : -128 ≤ n ∧ n ≤ 127) : (Int8.ofInt n).toInt32 = Int32.ofInt n := by
  rw [← Int32.toInt_inj, z32 (by omega), Int8.toInt_toInt32, Int8.toInt_ofInt_of_le (by omega) (by omega)]
theorem z16_32 {n : Int} (h : -32768 ≤ n ∧ n ≤ 32767) : (Int16.ofInt n).toInt32 = Int32.ofInt n := by
  rw [← Int32.toInt_inj, z32 (by omega), Int16.toInt_toInt32, Int16.toInt_ofInt_of_le (by omega) (by omega)]
theorem z32_64 {n : Int} (h : -2147483648 ≤ n ∧ n ≤ 2147483647) : (Int32.ofInt n).toInt64 = Int64.ofInt n := by
  rw [← Int64.toInt_inj, z64 (by omega), Int32.toInt_toInt64, z32 h]
theorem ztdiv {a b : Int} (ha : -2147483648 ≤ a ∧ a ≤ 2147483647) (hb : -2147483648 ≤ b ∧ b ≤ 2147483647) : Int32.ofInt a / Int32.ofInt b = Int32.ofInt (a.tdiv b) :=
  (Int32.ofInt_tdiv (by simpa using ha.1) (by simpa [Int32.maxValue] using ha.2) (by simpa using hb.1) (by simpa [Int32.maxValue] using hb.2)).symm
theorem ztdivl {a b : Int} (ha : -9223372036854775808 ≤ a ∧ a ≤ 9223372036854775807) (hb : -9223372036854775808 ≤ b ∧ b ≤ 9223372036854775807) : Int64.ofInt a / Int64.ofInt b = Int64.ofInt (a.tdiv b) :=
  (Int64.ofInt_tdiv (by simpa using ha.1) (by simpa [Int64.maxValue] using ha.2) (by simpa using hb.1) (by simpa [Int64.maxValue] using hb.2)).symm
theorem ztmod {a b : Int} (ha : -2147483648 ≤ a ∧ a ≤ 2147483647) (hb : -2147483648 ≤ b ∧ b ≤ 2147483647) : Int32.ofInt a - Int32.ofInt a / Int32.ofInt b * Int32.ofInt b = Int32.ofInt (a.tmod b) := by
  rw [ztdiv ha hb, ← Int32.ofInt_mul, ← Int32.ofInt_sub, Int.tmod_def, Int.mul_comm b]
theorem ztmodl {a b : Int} (ha : -9223372036854775808 ≤ a ∧ a ≤ 9223372036854775807) (hb : -9223372036854775808 ≤ b ∧ b ≤ 9223372036854775807) : Int64.ofInt a - Int64.ofInt a / Int64.ofInt b * Int64.ofInt b = Int64.ofInt (a.tmod b) := by
  rw [ztdivl ha hb, ← Int64.ofInt_mul, ← Int64.ofInt_sub, Int.tmod_def, Int.mul_comm b]
theorem ztmod_abs (a b : Int) : (a.tmod b).natAbs ≤ a.natAbs := by
  rw [Int.natAbs_tmod]; exact Nat.mod_le _ _
theorem ztdiv_abs (a b : Int) : (a.tdiv b).natAbs ≤ a.natAbs := by
  rw [Int.natAbs_tdiv]; exact Nat.div_le_self _ _
theorem ztdiv_rng {a b N : Int} (ha : -N - 1 ≤ a ∧ a ≤ N) (h : ¬ (a = -N - 1 ∧ b = -1)) (hN : 0 < N) : -N - 1 ≤ a.tdiv b ∧ a.tdiv b ≤ N := by
  have h1 := ztdiv_abs a b
  by_cases h2 : a.tdiv b = N + 1
  · exfalso
    have h3 : a = -N - 1 := by omega
    have h5 : a.natAbs = (N + 1).natAbs := by omega
    have h6 : (a.tdiv b).natAbs = a.natAbs / b.natAbs := Int.natAbs_tdiv a b
    have h7 : b.natAbs = 1 := by
      rcases Nat.lt_or_ge b.natAbs 2 with q | q
      · rcases Nat.eq_zero_or_pos b.natAbs with q0 | q0
        · rw [q0, Nat.div_zero] at h6; omega
        · omega
      · have : a.natAbs / b.natAbs ≤ a.natAbs / 2 := Nat.div_le_div_left q (by omega)
        omega
    rcases Int.natAbs_eq b with q | q
    · rw [h7] at q
      rw [q] at h2
      simp at h2
      omega
    · rw [h7] at q
      exact h ⟨h3, q⟩
  · omega
theorem zdc {Y : zY} {i pc n : Nat} {I : Instr} (hT : ∀ q ∈ Y.2.2.2.2, decode Y.2.1 q.1 = .ok q.2) (hi : Y.2.2.2.2[i]? = some (pc, I, n)) : decode Y.2.1 pc = .ok (I, n) := by
  have h := hT _ (zmem hi)
  dsimp only at h
  exact h
section ZP
variable {α : Type} {l : Launch} {E : zE} {d : Nat} {Y : zY} {pc : Nat} {ls : zLs} {st : List zV} {M : zM} {cv : α → zRes} {x : Option α}
theorem zO_iconst {n : Int} (hi : decode Y.2.1 pc = .ok (.iconst n, 1)) (hr : -2147483648 ≤ n ∧ n ≤ 2147483647) (k : zO l E d Y (pc + 1) ls (zI n :: st) M cv x) : zO l E d Y pc ls st M cv x := zO_go (fun p e Rm s m args below meth c H locs cells slots Q rls n0 hC hR hL hn hok hl kk => by
  obtain ⟨hx, hb, hml, hown, hnm, hts, hK, hf1, hf2, hT, hh1, hh2⟩ := id hC
  have hd := hi
  exact lv_iconst hx hb hd rfl (kk rls (hok.cons hr) hl)) k
theorem zO_bipush {n : Int} (hi : decode Y.2.1 pc = .ok (.bipush n, 2)) (hr : -128 ≤ n ∧ n ≤ 127) (k : zO l E d Y (pc + 2) ls (zI n :: st) M cv x) : zO l E d Y pc ls st M cv x := zO_go (fun p e Rm s m args below meth c H locs cells slots Q rls n0 hC hR hL hn hok hl kk => by
  obtain ⟨hx, hb, hml, hown, hnm, hts, hK, hf1, hf2, hT, hh1, hh2⟩ := id hC
  have hd := hi
  exact lv_bipush hx hb hd (z8_32 hr) (kk rls (hok.cons (v := zI n) ⟨by omega, by omega⟩) hl)) k
theorem zO_sipush {n : Int} (hi : decode Y.2.1 pc = .ok (.sipush n, 3)) (hr : -32768 ≤ n ∧ n ≤ 32767) (k : zO l E d Y (pc + 3) ls (zI n :: st) M cv x) : zO l E d Y pc ls st M cv x := zO_go (fun p e Rm s m args below meth c H locs cells slots Q rls n0 hC hR hL hn hok hl kk => by
  obtain ⟨hx, hb, hml, hown, hnm, hts, hK, hf1, hf2, hT, hh1, hh2⟩ := id hC
  have hd := hi
  exact lv_sipush hx hb hd (z16_32 hr) (kk rls (hok.cons (v := zI n) ⟨by omega, by omega⟩) hl)) k
theorem zO_lconst {n : Fin 2} (hi : decode Y.2.1 pc = .ok (.lconst n, 1)) (k : zO l E d Y (pc + 1) ls (zL ((n : Nat) : Int) :: st) M cv x) : zO l E d Y pc ls st M cv x := zO_go (fun p e Rm s m args below meth c H locs cells slots Q rls n0 hC hR hL hn hok hl kk => by
  obtain ⟨hx, hb, hml, hown, hnm, hts, hK, hf1, hf2, hT, hh1, hh2⟩ := id hC
  have hd := hi
  exact lv_lconst hx hb hd (by rw [← Int64.ofInt_eq_ofNat]) (kk rls (hok.cons (v := zL ((n : Nat) : Int)) ⟨by omega, by omega⟩) hl)) k
theorem zO_null (hi : decode Y.2.1 pc = .ok (.aconst_null, 1)) (k : zO l E d Y (pc + 1) ls (zN :: st) M cv x) : zO l E d Y pc ls st M cv x := zO_go (fun p e Rm s m args below meth c H locs cells slots Q rls n0 hC hR hL hn hok hl kk => by
  obtain ⟨hx, hb, hml, hown, hnm, hts, hK, hf1, hf2, hT, hh1, hh2⟩ := id hC
  have hd := hi
  exact lv_null hx hb hd (kk rls (hok.cons trivial) hl)) k
theorem zO_ldc {j : Nat} {n : Int} (hi : decode Y.2.1 pc = .ok (.ldc j, 2)) (hw : Cond.constant Y.1.cls j (Int32.ofInt n) ∈ zgood) (hr : -2147483648 ≤ n ∧ n ≤ 2147483647) (k : zO l E d Y (pc + 2) ls (zI n :: st) M cv x) : zO l E d Y pc ls st M cv x := zO_go (fun p e Rm s m args below meth c H locs cells slots Q rls n0 hC hR hL hn hok hl kk => by
  obtain ⟨hx, hb, hml, hown, hnm, hts, hK, hf1, hf2, hT, hh1, hh2⟩ := id hC
  have hd := hi
  exact lv_ldc hx hb hown (hts _ hw) hd (kk rls (hok.cons hr) hl)) k
theorem zO_ldcw {j : Nat} {n : Int} (hi : decode Y.2.1 pc = .ok (.ldc_w j, 3)) (hw : Cond.constant Y.1.cls j (Int32.ofInt n) ∈ zgood) (hr : -2147483648 ≤ n ∧ n ≤ 2147483647) (k : zO l E d Y (pc + 3) ls (zI n :: st) M cv x) : zO l E d Y pc ls st M cv x := zO_go (fun p e Rm s m args below meth c H locs cells slots Q rls n0 hC hR hL hn hok hl kk => by
  obtain ⟨hx, hb, hml, hown, hnm, hts, hK, hf1, hf2, hT, hh1, hh2⟩ := id hC
  have hd := hi
  exact lv_ldcw hx hb hown (hts _ hw) hd (kk rls (hok.cons hr) hl)) k
theorem zO_ldc2 {j : Nat} {n : Int} (hi : decode Y.2.1 pc = .ok (.ldc2_w j, 3)) (hw : Cond.constantLong Y.1.cls j (Int64.ofInt n) ∈ zgood) (hr : -9223372036854775808 ≤ n ∧ n ≤ 9223372036854775807) (k : zO l E d Y (pc + 3) ls (zL n :: st) M cv x) : zO l E d Y pc ls st M cv x := zO_go (fun p e Rm s m args below meth c H locs cells slots Q rls n0 hC hR hL hn hok hl kk => by
  obtain ⟨hx, hb, hml, hown, hnm, hts, hK, hf1, hf2, hT, hh1, hh2⟩ := id hC
  have hd := hi
  exact lv_ldc2 hx hb hown (hts _ hw) hd (kk rls (hok.cons hr) hl)) k
theorem zO_iload_n {z : Int} {j : Fin 4} (hi : decode Y.2.1 pc = .ok (.iload_n j, 1)) (hg : zget ls j = some (zI z)) (k : zO l E d Y (pc + 1) ls (zI z :: st) M cv x) : zO l E d Y pc ls st M cv x := zO_go (fun p e Rm s m args below meth c H locs cells slots Q rls n0 hC hR hL hn hok hl kk => by
  obtain ⟨hx, hb, hml, hown, hnm, hts, hK, hf1, hf2, hT, hh1, hh2⟩ := id hC
  have hd := hi
  exact lv_iload_n hx hb hd rfl (zget_at hg hl) (kk rls (hok.cons (hok.1 _ (zget_mem hg))) hl)) k
theorem zO_iload {z : Int} {j : Nat} (hi : decode Y.2.1 pc = .ok (.iload j, 2)) (hg : zget ls j = some (zI z)) (k : zO l E d Y (pc + 2) ls (zI z :: st) M cv x) : zO l E d Y pc ls st M cv x := zO_go (fun p e Rm s m args below meth c H locs cells slots Q rls n0 hC hR hL hn hok hl kk => by
  obtain ⟨hx, hb, hml, hown, hnm, hts, hK, hf1, hf2, hT, hh1, hh2⟩ := id hC
  have hd := hi
  exact lv_iload hx hb hd (zget_at hg hl) (kk rls (hok.cons (hok.1 _ (zget_mem hg))) hl)) k
theorem zO_lload_n {z : Int} {j : Fin 4} (hi : decode Y.2.1 pc = .ok (.lload_n j, 1)) (hg : zget ls j = some (zL z)) (k : zO l E d Y (pc + 1) ls (zL z :: st) M cv x) : zO l E d Y pc ls st M cv x := zO_go (fun p e Rm s m args below meth c H locs cells slots Q rls n0 hC hR hL hn hok hl kk => by
  obtain ⟨hx, hb, hml, hown, hnm, hts, hK, hf1, hf2, hT, hh1, hh2⟩ := id hC
  have hd := hi
  exact lv_lload_n hx hb hd rfl (zget_at hg hl) (kk rls (hok.cons (hok.1 _ (zget_mem hg))) hl)) k
theorem zO_lload {z : Int} {j : Nat} (hi : decode Y.2.1 pc = .ok (.lload j, 2)) (hg : zget ls j = some (zL z)) (k : zO l E d Y (pc + 2) ls (zL z :: st) M cv x) : zO l E d Y pc ls st M cv x := zO_go (fun p e Rm s m args below meth c H locs cells slots Q rls n0 hC hR hL hn hok hl kk => by
  obtain ⟨hx, hb, hml, hown, hnm, hts, hK, hf1, hf2, hT, hh1, hh2⟩ := id hC
  have hd := hi
  exact lv_lload hx hb hd (zget_at hg hl) (kk rls (hok.cons (hok.1 _ (zget_mem hg))) hl)) k
theorem zO_aload_n {v : zV} {j : Fin 4} (hi : decode Y.2.1 pc = .ok (.aload_n j, 1)) (hg : zget ls j = some v) (hv : ∃ o, v = zP o) (k : zO l E d Y (pc + 1) ls (v :: st) M cv x) : zO l E d Y pc ls st M cv x := zO_go (fun p e Rm s m args below meth c H locs cells slots Q rls n0 hC hR hL hn hok hl kk => by
  obtain ⟨hx, hb, hml, hown, hnm, hts, hK, hf1, hf2, hT, hh1, hh2⟩ := id hC
  have hd := hi
  obtain ⟨o, rfl⟩ := hv
  cases o with
  | none => exact lv_aload_nN hx hb hd rfl (zget_at hg hl) (kk rls (hok.cons trivial) hl)
  | some a => exact lv_aload_n hx hb hd rfl (zget_at hg hl) (kk rls (hok.cons trivial) hl)) k
theorem zO_aload {v : zV} {j : Nat} (hi : decode Y.2.1 pc = .ok (.aload j, 2)) (hg : zget ls j = some v) (hv : ∃ o, v = zP o) (k : zO l E d Y (pc + 2) ls (v :: st) M cv x) : zO l E d Y pc ls st M cv x := zO_go (fun p e Rm s m args below meth c H locs cells slots Q rls n0 hC hR hL hn hok hl kk => by
  obtain ⟨hx, hb, hml, hown, hnm, hts, hK, hf1, hf2, hT, hh1, hh2⟩ := id hC
  have hd := hi
  obtain ⟨o, rfl⟩ := hv
  cases o with
  | none => exact lv_aloadN hx hb hd (zget_at hg hl) (kk rls (hok.cons trivial) hl)
  | some a => exact lv_aload hx hb hd (zget_at hg hl) (kk rls (hok.cons trivial) hl)) k
theorem zO_istore_n {z : Int} {j : Fin 4} (hi : decode Y.2.1 pc = .ok (.istore_n j, 1)) (hj : ((j : Nat) < Y.2.2.1)) (k : zO l E d Y (pc + 1) (zput1 ls j (zI z)) st M cv x) : zO l E d Y pc ls (zI z :: st) M cv x := zO_go (fun p e Rm s m args below meth c H locs cells slots Q rls n0 hC hR hL hn hok hl kk => by
  obtain ⟨hx, hb, hml, hown, hnm, hts, hK, hf1, hf2, hT, hh1, hh2⟩ := id hC
  have hd := hi
  exact lv_istore_n hx hb hd rfl hl hj rfl (fun rls1 hl1 => kk rls1 (zput1_ok hok.tl hok.hd) (zput1_has hl1))) k
theorem zO_istore {z : Int} {j : Nat} (hi : decode Y.2.1 pc = .ok (.istore j, 2)) (hj : j < Y.2.2.1) (k : zO l E d Y (pc + 2) (zput1 ls j (zI z)) st M cv x) : zO l E d Y pc ls (zI z :: st) M cv x := zO_go (fun p e Rm s m args below meth c H locs cells slots Q rls n0 hC hR hL hn hok hl kk => by
  obtain ⟨hx, hb, hml, hown, hnm, hts, hK, hf1, hf2, hT, hh1, hh2⟩ := id hC
  have hd := hi
  exact lv_istore hx hb hd hl hj rfl (fun rls1 hl1 => kk rls1 (zput1_ok hok.tl hok.hd) (zput1_has hl1))) k
theorem zO_lstore_n {z : Int} {j : Fin 4} (hi : decode Y.2.1 pc = .ok (.lstore_n j, 1)) (hj : ((j : Nat) + 1 < Y.2.2.1)) (k : zO l E d Y (pc + 1) (zput2 ls j (zL z)) st M cv x) : zO l E d Y pc ls (zL z :: st) M cv x := zO_go (fun p e Rm s m args below meth c H locs cells slots Q rls n0 hC hR hL hn hok hl kk => by
  obtain ⟨hx, hb, hml, hown, hnm, hts, hK, hf1, hf2, hT, hh1, hh2⟩ := id hC
  have hd := hi
  exact lv_lstore_n hx hb hd rfl hl hj rfl (fun rls1 hl1 => kk rls1 (zput2_ok hok.tl hok.hd) (zput2_has hl1))) k
theorem zO_lstore {z : Int} {j : Nat} (hi : decode Y.2.1 pc = .ok (.lstore j, 2)) (hj : j + 1 < Y.2.2.1) (k : zO l E d Y (pc + 2) (zput2 ls j (zL z)) st M cv x) : zO l E d Y pc ls (zL z :: st) M cv x := zO_go (fun p e Rm s m args below meth c H locs cells slots Q rls n0 hC hR hL hn hok hl kk => by
  obtain ⟨hx, hb, hml, hown, hnm, hts, hK, hf1, hf2, hT, hh1, hh2⟩ := id hC
  have hd := hi
  exact lv_lstore hx hb hd hl hj rfl (fun rls1 hl1 => kk rls1 (zput2_ok hok.tl hok.hd) (zput2_has hl1))) k
theorem zO_astore_n {v : zV} {j : Fin 4} (hi : decode Y.2.1 pc = .ok (.astore_n j, 1)) (hj : ((j : Nat) < Y.2.2.1)) (hv : ∃ o, v = zP o) (k : zO l E d Y (pc + 1) (zput1 ls j v) st M cv x) : zO l E d Y pc ls (v :: st) M cv x := zO_go (fun p e Rm s m args below meth c H locs cells slots Q rls n0 hC hR hL hn hok hl kk => by
  obtain ⟨hx, hb, hml, hown, hnm, hts, hK, hf1, hf2, hT, hh1, hh2⟩ := id hC
  have hd := hi
  obtain ⟨o, rfl⟩ := hv
  cases o with
  | none => exact lv_astore_nN hx hb hd rfl hl hj rfl (fun rls1 hl1 => kk rls1 (zput1_ok hok.tl hok.hd) (zput1_has hl1))
  | some a => exact lv_astore_n hx hb hd rfl hl hj rfl (fun rls1 hl1 => kk rls1 (zput1_ok hok.tl hok.hd) (zput1_has hl1))) k
theorem zO_astore {v : zV} {j : Nat} (hi : decode Y.2.1 pc = .ok (.astore j, 2)) (hj : j < Y.2.2.1) (hv : ∃ o, v = zP o) (k : zO l E d Y (pc + 2) (zput1 ls j v) st M cv x) : zO l E d Y pc ls (v :: st) M cv x := zO_go (fun p e Rm s m args below meth c H locs cells slots Q rls n0 hC hR hL hn hok hl kk => by
  obtain ⟨hx, hb, hml, hown, hnm, hts, hK, hf1, hf2, hT, hh1, hh2⟩ := id hC
  have hd := hi
  obtain ⟨o, rfl⟩ := hv
  cases o with
  | none => exact lv_astoreN hx hb hd hl hj rfl (fun rls1 hl1 => kk rls1 (zput1_ok hok.tl hok.hd) (zput1_has hl1))
  | some a => exact lv_astore hx hb hd hl hj rfl (fun rls1 hl1 => kk rls1 (zput1_ok hok.tl hok.hd) (zput1_has hl1))) k
theorem zq_P (z : Int) : ∃ o, zq z = zP o := ⟨_, rfl⟩
theorem zR_P (a : Nat) : ∃ o, zR a = zP o := ⟨_, rfl⟩
theorem zN_P : ∃ o, zN = zP o := ⟨_, rfl⟩
theorem zget_idx {E : zE} {ls : zLs} {j : Nat} {v : zV} (h : zget ls j = some v) : ∃ k : Nat, (zlv E ls)[k]? = some (j, zval E v) := by
  obtain ⟨k, hk, e⟩ := List.getElem_of_mem (zget_mem h)
  exact ⟨k, by simp [zlv, hk, e]⟩
theorem zO_iinc {z : Int} {j : Nat} {n : Int} (hi : decode Y.2.1 pc = .ok (.iinc j n, 3)) (hg : zget ls j = some (zI z)) (hr : -2147483648 ≤ z + n ∧ z + n ≤ 2147483647) (hj : j < Y.2.2.1) (k : zO l E d Y (pc + 3) (zput1 ls j (zI (z + n))) st M cv x) : zO l E d Y pc ls st M cv x := zO_go (fun p e Rm s m args below meth c H locs cells slots Q rls n0 hC hR hL hn hok hl kk => by
  obtain ⟨hx, hb, hml, hown, hnm, hts, hK, hf1, hf2, hT, hh1, hh2⟩ := id hC
  have hd := hi
  obtain ⟨k0, hk0⟩ := zget_idx (E := E) hg
  exact lv_iinc (v := Int32.ofInt (z + n)) hx hb hd hl hk0 (by rw [Int32.ofInt_add]) hj rfl (fun rls1 hl1 => kk rls1 (zput1_ok hok hr) (zput1_has hl1))) k
theorem zO_iadd {a b : Int} (hi : decode Y.2.1 pc = .ok (.iadd, 1)) (hr : -2147483648 ≤ a + b ∧ a + b ≤ 2147483647) (k : zO l E d Y (pc + 1) ls (zI (a + b) :: st) M cv x) : zO l E d Y pc ls (zI b :: zI a :: st) M cv x := zO_go (fun p e Rm s m args below meth c H locs cells slots Q rls n0 hC hR hL hn hok hl kk => by
  obtain ⟨hx, hb, hml, hown, hnm, hts, hK, hf1, hf2, hT, hh1, hh2⟩ := id hC
  have hd := hi
  refine lv_iadd hx hb hd ?_
  rw [← Int32.ofInt_add]
  exact kk rls (hok.tl.tl.cons hr) hl) k
theorem zO_isub {a b : Int} (hi : decode Y.2.1 pc = .ok (.isub, 1)) (hr : -2147483648 ≤ a - b ∧ a - b ≤ 2147483647) (k : zO l E d Y (pc + 1) ls (zI (a - b) :: st) M cv x) : zO l E d Y pc ls (zI b :: zI a :: st) M cv x := zO_go (fun p e Rm s m args below meth c H locs cells slots Q rls n0 hC hR hL hn hok hl kk => by
  obtain ⟨hx, hb, hml, hown, hnm, hts, hK, hf1, hf2, hT, hh1, hh2⟩ := id hC
  have hd := hi
  refine lv_isub hx hb hd ?_
  rw [← Int32.ofInt_sub]
  exact kk rls (hok.tl.tl.cons hr) hl) k
theorem zO_imul {a b : Int} (hi : decode Y.2.1 pc = .ok (.imul, 1)) (hr : -2147483648 ≤ a * b ∧ a * b ≤ 2147483647) (k : zO l E d Y (pc + 1) ls (zI (a * b) :: st) M cv x) : zO l E d Y pc ls (zI b :: zI a :: st) M cv x := zO_go (fun p e Rm s m args below meth c H locs cells slots Q rls n0 hC hR hL hn hok hl kk => by
  obtain ⟨hx, hb, hml, hown, hnm, hts, hK, hf1, hf2, hT, hh1, hh2⟩ := id hC
  have hd := hi
  refine lv_imul hx hb hd ?_
  rw [← Int32.ofInt_mul]
  exact kk rls (hok.tl.tl.cons hr) hl) k
theorem zO_ladd {a b : Int} (hi : decode Y.2.1 pc = .ok (.ladd, 1)) (hr : -9223372036854775808 ≤ a + b ∧ a + b ≤ 9223372036854775807) (k : zO l E d Y (pc + 1) ls (zL (a + b) :: st) M cv x) : zO l E d Y pc ls (zL b :: zL a :: st) M cv x := zO_go (fun p e Rm s m args below meth c H locs cells slots Q rls n0 hC hR hL hn hok hl kk => by
  obtain ⟨hx, hb, hml, hown, hnm, hts, hK, hf1, hf2, hT, hh1, hh2⟩ := id hC
  have hd := hi
  refine lv_ladd hx hb hd ?_
  rw [← Int64.ofInt_add]
  exact kk rls (hok.tl.tl.cons hr) hl) k
theorem zO_lsub {a b : Int} (hi : decode Y.2.1 pc = .ok (.lsub, 1)) (hr : -9223372036854775808 ≤ a - b ∧ a - b ≤ 9223372036854775807) (k : zO l E d Y (pc + 1) ls (zL (a - b) :: st) M cv x) : zO l E d Y pc ls (zL b :: zL a :: st) M cv x := zO_go (fun p e Rm s m args below meth c H locs cells slots Q rls n0 hC hR hL hn hok hl kk => by
  obtain ⟨hx, hb, hml, hown, hnm, hts, hK, hf1, hf2, hT, hh1, hh2⟩ := id hC
  have hd := hi
  refine lv_lsub hx hb hd ?_
  rw [← Int64.ofInt_sub]
  exact kk rls (hok.tl.tl.cons hr) hl) k
theorem zO_lmul {a b : Int} (hi : decode Y.2.1 pc = .ok (.lmul, 1)) (hr : -9223372036854775808 ≤ a * b ∧ a * b ≤ 9223372036854775807) (k : zO l E d Y (pc + 1) ls (zL (a * b) :: st) M cv x) : zO l E d Y pc ls (zL b :: zL a :: st) M cv x := zO_go (fun p e Rm s m args below meth c H locs cells slots Q rls n0 hC hR hL hn hok hl kk => by
  obtain ⟨hx, hb, hml, hown, hnm, hts, hK, hf1, hf2, hT, hh1, hh2⟩ := id hC
  have hd := hi
  refine lv_lmul hx hb hd ?_
  rw [← Int64.ofInt_mul]
  exact kk rls (hok.tl.tl.cons hr) hl) k
theorem zO_ineg {a : Int} (hi : decode Y.2.1 pc = .ok (.ineg, 1)) (hr : -2147483648 ≤ -a ∧ -a ≤ 2147483647) (k : zO l E d Y (pc + 1) ls (zI (-a) :: st) M cv x) : zO l E d Y pc ls (zI a :: st) M cv x := zO_go (fun p e Rm s m args below meth c H locs cells slots Q rls n0 hC hR hL hn hok hl kk => by
  obtain ⟨hx, hb, hml, hown, hnm, hts, hK, hf1, hf2, hT, hh1, hh2⟩ := id hC
  have hd := hi
  refine lv_ineg hx hb hd ?_
  rw [← Int32.ofInt_neg]
  exact kk rls (hok.tl.cons hr) hl) k
theorem zO_iand {a b : Int} (hi : decode Y.2.1 pc = .ok (.iand, 1)) (k : zO l E d Y (pc + 1) ls (zI (zand a b) :: st) M cv x) : zO l E d Y pc ls (zI b :: zI a :: st) M cv x := zO_go (fun p e Rm s m args below meth c H locs cells slots Q rls n0 hC hR hL hn hok hl kk => by
  obtain ⟨hx, hb, hml, hown, hnm, hts, hK, hf1, hf2, hT, hh1, hh2⟩ := id hC
  have hd := hi
  refine lv_iand hx hb hd ?_
  have h := kk rls (hok.tl.tl.cons (v := zI (zand a b)) (z32_rng _)) hl
  simp only [List.map_cons, zval, zand, Int32.ofInt_toInt] at h
  exact h) k
theorem zO_ior {a b : Int} (hi : decode Y.2.1 pc = .ok (.ior, 1)) (k : zO l E d Y (pc + 1) ls (zI (zor a b) :: st) M cv x) : zO l E d Y pc ls (zI b :: zI a :: st) M cv x := zO_go (fun p e Rm s m args below meth c H locs cells slots Q rls n0 hC hR hL hn hok hl kk => by
  obtain ⟨hx, hb, hml, hown, hnm, hts, hK, hf1, hf2, hT, hh1, hh2⟩ := id hC
  have hd := hi
  refine lv_ior hx hb hd ?_
  have h := kk rls (hok.tl.tl.cons (v := zI (zor a b)) (z32_rng _)) hl
  simp only [List.map_cons, zval, zor, Int32.ofInt_toInt] at h
  exact h) k
theorem zO_ixor {a b : Int} (hi : decode Y.2.1 pc = .ok (.ixor, 1)) (k : zO l E d Y (pc + 1) ls (zI (zxor a b) :: st) M cv x) : zO l E d Y pc ls (zI b :: zI a :: st) M cv x := zO_go (fun p e Rm s m args below meth c H locs cells slots Q rls n0 hC hR hL hn hok hl kk => by
  obtain ⟨hx, hb, hml, hown, hnm, hts, hK, hf1, hf2, hT, hh1, hh2⟩ := id hC
  have hd := hi
  refine lv_ixor hx hb hd ?_
  have h := kk rls (hok.tl.tl.cons (v := zI (zxor a b)) (z32_rng _)) hl
  simp only [List.map_cons, zval, zxor, Int32.ofInt_toInt] at h
  exact h) k
theorem zO_ishl {a b : Int} (hi : decode Y.2.1 pc = .ok (.ishl, 1)) (k : zO l E d Y (pc + 1) ls (zI (zshl a b) :: st) M cv x) : zO l E d Y pc ls (zI b :: zI a :: st) M cv x := zO_go (fun p e Rm s m args below meth c H locs cells slots Q rls n0 hC hR hL hn hok hl kk => by
  obtain ⟨hx, hb, hml, hown, hnm, hts, hK, hf1, hf2, hT, hh1, hh2⟩ := id hC
  have hd := hi
  refine lv_ishl hx hb hd ?_
  have h := kk rls (hok.tl.tl.cons (v := zI (zshl a b)) (z32_rng _)) hl
  simp only [List.map_cons, zval, zshl, Int32.ofInt_toInt] at h
  exact h) k
theorem zO_ishr {a b : Int} (hi : decode Y.2.1 pc = .ok (.ishr, 1)) (k : zO l E d Y (pc + 1) ls (zI (zshr a b) :: st) M cv x) : zO l E d Y pc ls (zI b :: zI a :: st) M cv x := zO_go (fun p e Rm s m args below meth c H locs cells slots Q rls n0 hC hR hL hn hok hl kk => by
  obtain ⟨hx, hb, hml, hown, hnm, hts, hK, hf1, hf2, hT, hh1, hh2⟩ := id hC
  have hd := hi
  refine lv_ishr hx hb hd ?_
  have h := kk rls (hok.tl.tl.cons (v := zI (zshr a b)) (z32_rng _)) hl
  simp only [List.map_cons, zval, zshr, Int32.ofInt_toInt] at h
  exact h) k
theorem zO_iushr {a b : Int} (hi : decode Y.2.1 pc = .ok (.iushr, 1)) (k : zO l E d Y (pc + 1) ls (zI (zushr a b) :: st) M cv x) : zO l E d Y pc ls (zI b :: zI a :: st) M cv x := zO_go (fun p e Rm s m args below meth c H locs cells slots Q rls n0 hC hR hL hn hok hl kk => by
  obtain ⟨hx, hb, hml, hown, hnm, hts, hK, hf1, hf2, hT, hh1, hh2⟩ := id hC
  have hd := hi
  exact lv_iushr hx hb hd (Int32.ofInt_toInt _).symm (kk rls (hok.tl.tl.cons (v := zI (zushr a b)) (z32_rng _)) hl)) k
theorem zO_land {a b : Int} (hi : decode Y.2.1 pc = .ok (.land, 1)) (k : zO l E d Y (pc + 1) ls (zL (zandl a b) :: st) M cv x) : zO l E d Y pc ls (zL b :: zL a :: st) M cv x := zO_go (fun p e Rm s m args below meth c H locs cells slots Q rls n0 hC hR hL hn hok hl kk => by
  obtain ⟨hx, hb, hml, hown, hnm, hts, hK, hf1, hf2, hT, hh1, hh2⟩ := id hC
  have hd := hi
  refine lv_land hx hb hd ?_
  have h := kk rls (hok.tl.tl.cons (v := zL (zandl a b)) (z64_rng _)) hl
  simp only [List.map_cons, zval, zandl, Int64.ofInt_toInt] at h
  exact h) k
theorem zO_lor {a b : Int} (hi : decode Y.2.1 pc = .ok (.lor, 1)) (k : zO l E d Y (pc + 1) ls (zL (zorl a b) :: st) M cv x) : zO l E d Y pc ls (zL b :: zL a :: st) M cv x := zO_go (fun p e Rm s m args below meth c H locs cells slots Q rls n0 hC hR hL hn hok hl kk => by
  obtain ⟨hx, hb, hml, hown, hnm, hts, hK, hf1, hf2, hT, hh1, hh2⟩ := id hC
  have hd := hi
  refine lv_lor hx hb hd ?_
  have h := kk rls (hok.tl.tl.cons (v := zL (zorl a b)) (z64_rng _)) hl
  simp only [List.map_cons, zval, zorl, Int64.ofInt_toInt] at h
  exact h) k
theorem zO_lshl {a b : Int} (hi : decode Y.2.1 pc = .ok (.lshl, 1)) (k : zO l E d Y (pc + 1) ls (zL (zshll a b) :: st) M cv x) : zO l E d Y pc ls (zI b :: zL a :: st) M cv x := zO_go (fun p e Rm s m args below meth c H locs cells slots Q rls n0 hC hR hL hn hok hl kk => by
  obtain ⟨hx, hb, hml, hown, hnm, hts, hK, hf1, hf2, hT, hh1, hh2⟩ := id hC
  have hd := hi
  exact lv_lshl hx hb hd (Int64.ofInt_toInt _).symm (kk rls (hok.tl.tl.cons (v := zL (zshll a b)) (z64_rng _)) hl)) k
theorem zO_lushr {a b : Int} (hi : decode Y.2.1 pc = .ok (.lushr, 1)) (k : zO l E d Y (pc + 1) ls (zL (zushrl a b) :: st) M cv x) : zO l E d Y pc ls (zI b :: zL a :: st) M cv x := zO_go (fun p e Rm s m args below meth c H locs cells slots Q rls n0 hC hR hL hn hok hl kk => by
  obtain ⟨hx, hb, hml, hown, hnm, hts, hK, hf1, hf2, hT, hh1, hh2⟩ := id hC
  have hd := hi
  exact lv_lushr hx hb hd (Int64.ofInt_toInt _).symm (kk rls (hok.tl.tl.cons (v := zL (zushrl a b)) (z64_rng _)) hl)) k
theorem zO_idiv {a b : Int} (hi : decode Y.2.1 pc = .ok (.idiv, 1)) (h0 : b ≠ 0) (h1 : ¬ (a = -2147483648 ∧ b = -1)) (k : zO l E d Y (pc + 1) ls (zI (a.tdiv b) :: st) M cv x) : zO l E d Y pc ls (zI b :: zI a :: st) M cv x := zO_go (fun p e Rm s m args below meth c H locs cells slots Q rls n0 hC hR hL hn hok hl kk => by
  obtain ⟨hx, hb, hml, hown, hnm, hts, hK, hf1, hf2, hT, hh1, hh2⟩ := id hC
  have hd := hi
  have hb0 : -2147483648 ≤ b ∧ b ≤ 2147483647 := hok.hd
  have ha0 : -2147483648 ≤ a ∧ a ≤ 2147483647 := hok.tl.hd
  refine lv_idiv hx hb hd (fun q => h0 ((z32_inj hb0 (by decide)).mp q)) ?_
  rw [ztdiv ha0 hb0]
  exact kk rls (hok.tl.tl.cons (v := zI (a.tdiv b)) (ztdiv_rng (N := 2147483647) (by omega) (by omega) (by omega))) hl) k
theorem zO_irem {a b : Int} (hi : decode Y.2.1 pc = .ok (.irem, 1)) (h0 : b ≠ 0) (k : zO l E d Y (pc + 1) ls (zI (a.tmod b) :: st) M cv x) : zO l E d Y pc ls (zI b :: zI a :: st) M cv x := zO_go (fun p e Rm s m args below meth c H locs cells slots Q rls n0 hC hR hL hn hok hl kk => by
  obtain ⟨hx, hb, hml, hown, hnm, hts, hK, hf1, hf2, hT, hh1, hh2⟩ := id hC
  have hd := hi
  have hb0 : -2147483648 ≤ b ∧ b ≤ 2147483647 := hok.hd
  have ha0 : -2147483648 ≤ a ∧ a ≤ 2147483647 := hok.tl.hd
  refine lv_irem hx hb hd (fun q => h0 ((z32_inj hb0 (by decide)).mp q)) ?_
  rw [ztmod ha0 hb0]
  have h2 := ztmod_abs a b
  have h3 : ¬ a.tmod b = 2147483648 := by
    intro q
    have h4 := Int.tmod_nonneg (a := a) b
    have h5 : a < 0 → a.tmod b ≤ 0 := fun h => by
      have := Int.tmod_nonneg (a := -a) b (by omega)
      rw [Int.neg_tmod] at this
      omega
    omega
  exact kk rls (hok.tl.tl.cons (v := zI (a.tmod b)) ⟨by omega, by omega⟩) hl) k
theorem zO_ldiv {a b : Int} (hi : decode Y.2.1 pc = .ok (.ldiv, 1)) (h0 : b ≠ 0) (h1 : ¬ (a = -9223372036854775808 ∧ b = -1)) (k : zO l E d Y (pc + 1) ls (zL (a.tdiv b) :: st) M cv x) : zO l E d Y pc ls (zL b :: zL a :: st) M cv x := zO_go (fun p e Rm s m args below meth c H locs cells slots Q rls n0 hC hR hL hn hok hl kk => by
  obtain ⟨hx, hb, hml, hown, hnm, hts, hK, hf1, hf2, hT, hh1, hh2⟩ := id hC
  have hd := hi
  have hb0 : -9223372036854775808 ≤ b ∧ b ≤ 9223372036854775807 := hok.hd
  have ha0 : -9223372036854775808 ≤ a ∧ a ≤ 9223372036854775807 := hok.tl.hd
  refine lv_ldiv hx hb hd (fun q => h0 (by have := congrArg Int64.toInt q; rw [z64 hb0] at this; simpa using this)) ?_
  rw [ztdivl ha0 hb0]
  exact kk rls (hok.tl.tl.cons (v := zL (a.tdiv b)) (ztdiv_rng (N := 9223372036854775807) (by omega) (by omega) (by omega))) hl) k
theorem zO_lrem {a b : Int} (hi : decode Y.2.1 pc = .ok (.lrem, 1)) (h0 : b ≠ 0) (k : zO l E d Y (pc + 1) ls (zL (a.tmod b) :: st) M cv x) : zO l E d Y pc ls (zL b :: zL a :: st) M cv x := zO_go (fun p e Rm s m args below meth c H locs cells slots Q rls n0 hC hR hL hn hok hl kk => by
  obtain ⟨hx, hb, hml, hown, hnm, hts, hK, hf1, hf2, hT, hh1, hh2⟩ := id hC
  have hd := hi
  have hb0 : -9223372036854775808 ≤ b ∧ b ≤ 9223372036854775807 := hok.hd
  have ha0 : -9223372036854775808 ≤ a ∧ a ≤ 9223372036854775807 := hok.tl.hd
  refine lv_lrem hx hb hd (fun q => h0 (by have := congrArg Int64.toInt q; rw [z64 hb0] at this; simpa using this)) ?_
  rw [ztmodl ha0 hb0]
  have h2 := ztmod_abs a b
  have h3 : ¬ a.tmod b = 9223372036854775808 := by
    intro q
    have h4 := Int.tmod_nonneg (a := a) b
    have h5 : a < 0 → a.tmod b ≤ 0 := fun h => by
      have := Int.tmod_nonneg (a := -a) b (by omega)
      rw [Int.neg_tmod] at this
      omega
    omega
  exact kk rls (hok.tl.tl.cons (v := zL (a.tmod b)) ⟨by omega, by omega⟩) hl) k
theorem zO_i2l {a : Int} (hi : decode Y.2.1 pc = .ok (.i2l, 1)) (k : zO l E d Y (pc + 1) ls (zL a :: st) M cv x) : zO l E d Y pc ls (zI a :: st) M cv x := zO_go (fun p e Rm s m args below meth c H locs cells slots Q rls n0 hC hR hL hn hok hl kk => by
  obtain ⟨hx, hb, hml, hown, hnm, hts, hK, hf1, hf2, hT, hh1, hh2⟩ := id hC
  have hd := hi
  have ha0 : -2147483648 ≤ a ∧ a ≤ 2147483647 := hok.hd
  exact lv_i2l hx hb hd (z32_64 ha0) (kk rls (hok.tl.cons (v := zL a) ⟨by omega, by omega⟩) hl)) k
theorem zO_l2i {a : Int} (hi : decode Y.2.1 pc = .ok (.l2i, 1)) (k : zO l E d Y (pc + 1) ls (zI (zl2i a) :: st) M cv x) : zO l E d Y pc ls (zL a :: st) M cv x := zO_go (fun p e Rm s m args below meth c H locs cells slots Q rls n0 hC hR hL hn hok hl kk => by
  obtain ⟨hx, hb, hml, hown, hnm, hts, hK, hf1, hf2, hT, hh1, hh2⟩ := id hC
  have hd := hi
  exact lv_l2i hx hb hd (Int32.ofInt_toInt _).symm (kk rls (hok.tl.cons (v := zI (zl2i a)) (z32_rng _)) hl)) k
theorem zO_i2b {a : Int} (hi : decode Y.2.1 pc = .ok (.i2b, 1)) (k : zO l E d Y (pc + 1) ls (zI (zi2b a) :: st) M cv x) : zO l E d Y pc ls (zI a :: st) M cv x := zO_go (fun p e Rm s m args below meth c H locs cells slots Q rls n0 hC hR hL hn hok hl kk => by
  obtain ⟨hx, hb, hml, hown, hnm, hts, hK, hf1, hf2, hT, hh1, hh2⟩ := id hC
  have hd := hi
  exact lv_i2b hx hb hd (Int32.ofInt_toInt _).symm (kk rls (hok.tl.cons (v := zI (zi2b a)) (z32_rng _)) hl)) k
theorem zO_i2c {a : Int} (hi : decode Y.2.1 pc = .ok (.i2c, 1)) (k : zO l E d Y (pc + 1) ls (zI (zi2c a) :: st) M cv x) : zO l E d Y pc ls (zI a :: st) M cv x := zO_go (fun p e Rm s m args below meth c H locs cells slots Q rls n0 hC hR hL hn hok hl kk => by
  obtain ⟨hx, hb, hml, hown, hnm, hts, hK, hf1, hf2, hT, hh1, hh2⟩ := id hC
  have hd := hi
  exact lv_i2c hx hb hd (Int32.ofInt_toInt _).symm (kk rls (hok.tl.cons (v := zI (zi2c a)) (z32_rng _)) hl)) k
theorem zO_dup {v : zV} (hi : decode Y.2.1 pc = .ok (.dup, 1)) (hv : zcat v = 1) (k : zO l E d Y (pc + 1) ls (v :: v :: st) M cv x) : zO l E d Y pc ls (v :: st) M cv x := zO_go (fun p e Rm s m args below meth c H locs cells slots Q rls n0 hC hR hL hn hok hl kk => by
  obtain ⟨hx, hb, hml, hown, hnm, hts, hK, hf1, hf2, hT, hh1, hh2⟩ := id hC
  have hd := hi
  exact lv_dup hx hb hd (by rw [zcat_val]; exact hv) (kk rls (hok.cons hok.hd) hl)) k
theorem zO_pop {v : zV} (hi : decode Y.2.1 pc = .ok (.pop, 1)) (hv : zcat v = 1) (k : zO l E d Y (pc + 1) ls st M cv x) : zO l E d Y pc ls (v :: st) M cv x := zO_go (fun p e Rm s m args below meth c H locs cells slots Q rls n0 hC hR hL hn hok hl kk => by
  obtain ⟨hx, hb, hml, hown, hnm, hts, hK, hf1, hf2, hT, hh1, hh2⟩ := id hC
  have hd := hi
  exact lv_pop hx hb hd (by rw [zcat_val]; exact hv) (kk rls hok.tl hl)) k
theorem zO_dup2a {u v : zV} (hi : decode Y.2.1 pc = .ok (.dup2, 1)) (hv : zcat v = 1) (hu : zcat u = 1) (k : zO l E d Y (pc + 1) ls (v :: u :: v :: u :: st) M cv x) : zO l E d Y pc ls (v :: u :: st) M cv x := zO_go (fun p e Rm s m args below meth c H locs cells slots Q rls n0 hC hR hL hn hok hl kk => by
  obtain ⟨hx, hb, hml, hown, hnm, hts, hK, hf1, hf2, hT, hh1, hh2⟩ := id hC
  have hd := hi
  exact lv_dup2_11 hx hb hd (by rw [zcat_val]; exact hv) (by rw [zcat_val]; exact hu) (kk rls ((hok.cons hok.tl.hd).cons hok.hd) hl)) k
theorem zO_dup2b {v : zV} (hi : decode Y.2.1 pc = .ok (.dup2, 1)) (hv : zcat v = 2) (k : zO l E d Y (pc + 1) ls (v :: v :: st) M cv x) : zO l E d Y pc ls (v :: st) M cv x := zO_go (fun p e Rm s m args below meth c H locs cells slots Q rls n0 hC hR hL hn hok hl kk => by
  obtain ⟨hx, hb, hml, hown, hnm, hts, hK, hf1, hf2, hT, hh1, hh2⟩ := id hC
  have hd := hi
  exact lv_dup2_2 hx hb hd (by rw [zcat_val]; exact hv) (kk rls (hok.cons hok.hd) hl)) k
theorem zO_goto {off : Int} {tgt : Nat} (hi : decode Y.2.1 pc = .ok (.goto off, 3)) (ht : (pc : Int) + off = (tgt : Int)) (k : zO l E d Y tgt ls st M cv x) : zO l E d Y pc ls st M cv x := zO_go (fun p e Rm s m args below meth c H locs cells slots Q rls n0 hC hR hL hn hok hl kk => by
  obtain ⟨hx, hb, hml, hown, hnm, hts, hK, hf1, hf2, hT, hh1, hh2⟩ := id hC
  have hd := hi
  exact lv_goto hx hb hd ht (kk rls hok hl)) k
def zkeep (ks : List Nat) (ls : zLs) : zLs := ls.filter (fun q => ks.contains q.1)
theorem zO_live (ks : List Nat) (k : zO l E d Y pc (zkeep ks ls) st M cv x) : zO l E d Y pc ls st M cv x := zO_go (fun p e Rm s m args below meth c H locs cells slots Q rls n0 hC hR hL hn hok hl kk => by
  refine kk rls ⟨fun q hq => hok.1 q (List.mem_filter.mp hq).1, hok.2⟩ ⟨hl.1, hl.2.1, fun q hq => ?_⟩
  obtain ⟨q0, h0, rfl⟩ := List.mem_map.mp hq
  exact hl.2.2 _ (List.mem_map.mpr ⟨q0, (List.mem_filter.mp h0).1, rfl⟩)) k
theorem zO_br {st' : List zV} {C : Prop} [Decidable C] {y : Option α} {pt pf : Nat}
    (h : ∀ (p : Program) (e : Env) (Rm : Room) (s : State) (m : MethodId) (args : Array Value) (below : List Frame) (meth : Method) (c : Code) (H : Heap) (locs : List Loc) (cells slots : Nat) (Q : State → Prop) (rls : Array Slot) (n0 : Nat), zCx l E d Y n0 p Rm s m args meth c → zoks ls st → (C → zoks ls st' → W p l e Rm s m args below meth c H locs cells slots Q (F0 m pt rls (st'.map (zval E)))) → (¬ C → zoks ls st' → W p l e Rm s m args below meth c H locs cells slots Q (F0 m pf rls (st'.map (zval E)))) → W p l e Rm s m args below meth c H locs cells slots Q (F0 m pc rls (st.map (zval E))))
    (kt : C → zO l E d Y pt ls st' M cv x) (kf : ¬ C → zO l E d Y pf ls st' M cv y) : zO l E d Y pc ls st M cv (if C then x else y) := by
  intro r hr
  by_cases hc : C
  · rw [if_pos hc] at hr
    obtain ⟨hm, hk⟩ := kt hc r hr
    refine ⟨hm, fun hok p e Rm s m args below meth c H locs Q rls n0 s0 hC hR hL hl hn hq => ?_⟩
    exact h p e Rm s m args below meth c H locs _ _ Q rls n0 hC hok (fun _ hok' => hk hok' p e Rm s m args below meth c H locs Q rls n0 s0 hC hR hL hl hn hq) (fun q => absurd hc q)
  · rw [if_neg hc] at hr
    obtain ⟨hm, hk⟩ := kf hc r hr
    refine ⟨hm, fun hok p e Rm s m args below meth c H locs Q rls n0 s0 hC hR hL hl hn hq => ?_⟩
    exact h p e Rm s m args below meth c H locs _ _ Q rls n0 hC hok (fun q => absurd q hc) (fun _ hok' => hk hok' p e Rm s m args below meth c H locs Q rls n0 s0 hC hR hL hl hn hq)
theorem zO_icmp_eq {a b : Int} {off : Int} {tgt : Nat} {y : Option α} (hi : decode Y.2.1 pc = .ok (.if_icmp .eq off, 3)) (ht : (pc : Int) + off = (tgt : Int)) (kt : a = b → zO l E d Y tgt ls st M cv x) (kf : ¬ a = b → zO l E d Y (pc + 3) ls st M cv y) : zO l E d Y pc ls (zI b :: zI a :: st) M cv (if a = b then x else y) := zO_br (fun p e Rm s m args below meth c H locs cells slots Q rls n0 hC hok kt kf => by
  obtain ⟨hx, hb, hml, hown, hnm, hts, hK, hf1, hf2, hT, hh1, hh2⟩ := id hC
  have hd := hi
  have hB : -2147483648 ≤ b ∧ b ≤ 2147483647 := hok.hd
  have hA : -2147483648 ≤ a ∧ a ≤ 2147483647 := hok.tl.hd
  exact lv_icmp_eq hx hb hd ht (fun q => kt ((z32_inj hA hB).mp q) hok.tl.tl) (fun q => kf (fun z => q ((z32_inj hA hB).mpr z)) hok.tl.tl)) kt kf
theorem zO_if_eq {a : Int} {off : Int} {tgt : Nat} {y : Option α} (hi : decode Y.2.1 pc = .ok (.ifCond .eq off, 3)) (ht : (pc : Int) + off = (tgt : Int)) (kt : a = 0 → zO l E d Y tgt ls st M cv x) (kf : ¬ a = 0 → zO l E d Y (pc + 3) ls st M cv y) : zO l E d Y pc ls (zI a :: st) M cv (if a = 0 then x else y) := zO_br (fun p e Rm s m args below meth c H locs cells slots Q rls n0 hC hok kt kf => by
  obtain ⟨hx, hb, hml, hown, hnm, hts, hK, hf1, hf2, hT, hh1, hh2⟩ := id hC
  have hd := hi
  have hB : -2147483648 ≤ (0 : Int) ∧ (0 : Int) ≤ 2147483647 := (show -2147483648 ≤ (0 : Int) ∧ (0 : Int) ≤ 2147483647 by decide)
  have hA : -2147483648 ≤ a ∧ a ≤ 2147483647 := hok.hd
  exact lv_if_eq hx hb hd ht (fun q => kt ((z32_inj hA hB).mp q) hok.tl) (fun q => kf (fun z => q ((z32_inj hA hB).mpr z)) hok.tl)) kt kf
theorem zO_icmp_ne {a b : Int} {off : Int} {tgt : Nat} {y : Option α} (hi : decode Y.2.1 pc = .ok (.if_icmp .ne off, 3)) (ht : (pc : Int) + off = (tgt : Int)) (kt : a = b → zO l E d Y (pc + 3) ls st M cv x) (kf : ¬ a = b → zO l E d Y tgt ls st M cv y) : zO l E d Y pc ls (zI b :: zI a :: st) M cv (if a = b then x else y) := zO_br (fun p e Rm s m args below meth c H locs cells slots Q rls n0 hC hok kt kf => by
  obtain ⟨hx, hb, hml, hown, hnm, hts, hK, hf1, hf2, hT, hh1, hh2⟩ := id hC
  have hd := hi
  have hB : -2147483648 ≤ b ∧ b ≤ 2147483647 := hok.hd
  have hA : -2147483648 ≤ a ∧ a ≤ 2147483647 := hok.tl.hd
  exact lv_icmp_ne hx hb hd ht (fun q => kf (fun z => q ((z32_inj hA hB).mpr z)) hok.tl.tl) (fun q => kt ((z32_inj hA hB).mp q) hok.tl.tl)) kt kf
theorem zO_if_ne {a : Int} {off : Int} {tgt : Nat} {y : Option α} (hi : decode Y.2.1 pc = .ok (.ifCond .ne off, 3)) (ht : (pc : Int) + off = (tgt : Int)) (kt : a = 0 → zO l E d Y (pc + 3) ls st M cv x) (kf : ¬ a = 0 → zO l E d Y tgt ls st M cv y) : zO l E d Y pc ls (zI a :: st) M cv (if a = 0 then x else y) := zO_br (fun p e Rm s m args below meth c H locs cells slots Q rls n0 hC hok kt kf => by
  obtain ⟨hx, hb, hml, hown, hnm, hts, hK, hf1, hf2, hT, hh1, hh2⟩ := id hC
  have hd := hi
  have hB : -2147483648 ≤ (0 : Int) ∧ (0 : Int) ≤ 2147483647 := (show -2147483648 ≤ (0 : Int) ∧ (0 : Int) ≤ 2147483647 by decide)
  have hA : -2147483648 ≤ a ∧ a ≤ 2147483647 := hok.hd
  exact lv_if_ne hx hb hd ht (fun q => kf (fun z => q ((z32_inj hA hB).mpr z)) hok.tl) (fun q => kt ((z32_inj hA hB).mp q) hok.tl)) kt kf
theorem zO_icmp_lt {a b : Int} {off : Int} {tgt : Nat} {y : Option α} (hi : decode Y.2.1 pc = .ok (.if_icmp .lt off, 3)) (ht : (pc : Int) + off = (tgt : Int)) (kt : a < b → zO l E d Y tgt ls st M cv x) (kf : ¬ a < b → zO l E d Y (pc + 3) ls st M cv y) : zO l E d Y pc ls (zI b :: zI a :: st) M cv (if a < b then x else y) := zO_br (fun p e Rm s m args below meth c H locs cells slots Q rls n0 hC hok kt kf => by
  obtain ⟨hx, hb, hml, hown, hnm, hts, hK, hf1, hf2, hT, hh1, hh2⟩ := id hC
  have hd := hi
  have hB : -2147483648 ≤ b ∧ b ≤ 2147483647 := hok.hd
  have hA : -2147483648 ≤ a ∧ a ≤ 2147483647 := hok.tl.hd
  exact lv_icmp_lt hx hb hd ht (fun q => kt ((z32_lt hA hB).mp q) hok.tl.tl) (fun q => kf (fun z => q ((z32_lt hA hB).mpr z)) hok.tl.tl)) kt kf
theorem zO_if_lt {a : Int} {off : Int} {tgt : Nat} {y : Option α} (hi : decode Y.2.1 pc = .ok (.ifCond .lt off, 3)) (ht : (pc : Int) + off = (tgt : Int)) (kt : a < 0 → zO l E d Y tgt ls st M cv x) (kf : ¬ a < 0 → zO l E d Y (pc + 3) ls st M cv y) : zO l E d Y pc ls (zI a :: st) M cv (if a < 0 then x else y) := zO_br (fun p e Rm s m args below meth c H locs cells slots Q rls n0 hC hok kt kf => by
  obtain ⟨hx, hb, hml, hown, hnm, hts, hK, hf1, hf2, hT, hh1, hh2⟩ := id hC
  have hd := hi
  have hB : -2147483648 ≤ (0 : Int) ∧ (0 : Int) ≤ 2147483647 := (show -2147483648 ≤ (0 : Int) ∧ (0 : Int) ≤ 2147483647 by decide)
  have hA : -2147483648 ≤ a ∧ a ≤ 2147483647 := hok.hd
  exact lv_if_lt hx hb hd ht (fun q => kt ((z32_lt hA hB).mp q) hok.tl) (fun q => kf (fun z => q ((z32_lt hA hB).mpr z)) hok.tl)) kt kf
theorem zO_icmp_ge {a b : Int} {off : Int} {tgt : Nat} {y : Option α} (hi : decode Y.2.1 pc = .ok (.if_icmp .ge off, 3)) (ht : (pc : Int) + off = (tgt : Int)) (kt : a < b → zO l E d Y (pc + 3) ls st M cv x) (kf : ¬ a < b → zO l E d Y tgt ls st M cv y) : zO l E d Y pc ls (zI b :: zI a :: st) M cv (if a < b then x else y) := zO_br (fun p e Rm s m args below meth c H locs cells slots Q rls n0 hC hok kt kf => by
  obtain ⟨hx, hb, hml, hown, hnm, hts, hK, hf1, hf2, hT, hh1, hh2⟩ := id hC
  have hd := hi
  have hB : -2147483648 ≤ b ∧ b ≤ 2147483647 := hok.hd
  have hA : -2147483648 ≤ a ∧ a ≤ 2147483647 := hok.tl.hd
  exact lv_icmp_ge hx hb hd ht (fun q => kf (fun z => by have := (z32_le hB hA).mp q; omega) hok.tl.tl) (fun q => kt (by have : ¬ _ := fun z => q ((z32_le hB hA).mpr z); omega) hok.tl.tl)) kt kf
theorem zO_if_ge {a : Int} {off : Int} {tgt : Nat} {y : Option α} (hi : decode Y.2.1 pc = .ok (.ifCond .ge off, 3)) (ht : (pc : Int) + off = (tgt : Int)) (kt : a < 0 → zO l E d Y (pc + 3) ls st M cv x) (kf : ¬ a < 0 → zO l E d Y tgt ls st M cv y) : zO l E d Y pc ls (zI a :: st) M cv (if a < 0 then x else y) := zO_br (fun p e Rm s m args below meth c H locs cells slots Q rls n0 hC hok kt kf => by
  obtain ⟨hx, hb, hml, hown, hnm, hts, hK, hf1, hf2, hT, hh1, hh2⟩ := id hC
  have hd := hi
  have hB : -2147483648 ≤ (0 : Int) ∧ (0 : Int) ≤ 2147483647 := (show -2147483648 ≤ (0 : Int) ∧ (0 : Int) ≤ 2147483647 by decide)
  have hA : -2147483648 ≤ a ∧ a ≤ 2147483647 := hok.hd
  exact lv_if_ge hx hb hd ht (fun q => kf (fun z => by have := (z32_le hB hA).mp q; omega) hok.tl) (fun q => kt (by have : ¬ _ := fun z => q ((z32_le hB hA).mpr z); omega) hok.tl)) kt kf
theorem zO_icmp_gt {a b : Int} {off : Int} {tgt : Nat} {y : Option α} (hi : decode Y.2.1 pc = .ok (.if_icmp .gt off, 3)) (ht : (pc : Int) + off = (tgt : Int)) (kt : b < a → zO l E d Y tgt ls st M cv x) (kf : ¬ b < a → zO l E d Y (pc + 3) ls st M cv y) : zO l E d Y pc ls (zI b :: zI a :: st) M cv (if b < a then x else y) := zO_br (fun p e Rm s m args below meth c H locs cells slots Q rls n0 hC hok kt kf => by
  obtain ⟨hx, hb, hml, hown, hnm, hts, hK, hf1, hf2, hT, hh1, hh2⟩ := id hC
  have hd := hi
  have hB : -2147483648 ≤ b ∧ b ≤ 2147483647 := hok.hd
  have hA : -2147483648 ≤ a ∧ a ≤ 2147483647 := hok.tl.hd
  exact lv_icmp_gt hx hb hd ht (fun q => kt ((z32_lt hB hA).mp q) hok.tl.tl) (fun q => kf (fun z => q ((z32_lt hB hA).mpr z)) hok.tl.tl)) kt kf
theorem zO_if_gt {a : Int} {off : Int} {tgt : Nat} {y : Option α} (hi : decode Y.2.1 pc = .ok (.ifCond .gt off, 3)) (ht : (pc : Int) + off = (tgt : Int)) (kt : 0 < a → zO l E d Y tgt ls st M cv x) (kf : ¬ 0 < a → zO l E d Y (pc + 3) ls st M cv y) : zO l E d Y pc ls (zI a :: st) M cv (if 0 < a then x else y) := zO_br (fun p e Rm s m args below meth c H locs cells slots Q rls n0 hC hok kt kf => by
  obtain ⟨hx, hb, hml, hown, hnm, hts, hK, hf1, hf2, hT, hh1, hh2⟩ := id hC
  have hd := hi
  have hB : -2147483648 ≤ (0 : Int) ∧ (0 : Int) ≤ 2147483647 := (show -2147483648 ≤ (0 : Int) ∧ (0 : Int) ≤ 2147483647 by decide)
  have hA : -2147483648 ≤ a ∧ a ≤ 2147483647 := hok.hd
  exact lv_if_gt hx hb hd ht (fun q => kt ((z32_lt hB hA).mp q) hok.tl) (fun q => kf (fun z => q ((z32_lt hB hA).mpr z)) hok.tl)) kt kf
theorem zO_icmp_le {a b : Int} {off : Int} {tgt : Nat} {y : Option α} (hi : decode Y.2.1 pc = .ok (.if_icmp .le off, 3)) (ht : (pc : Int) + off = (tgt : Int)) (kt : b < a → zO l E d Y (pc + 3) ls st M cv x) (kf : ¬ b < a → zO l E d Y tgt ls st M cv y) : zO l E d Y pc ls (zI b :: zI a :: st) M cv (if b < a then x else y) := zO_br (fun p e Rm s m args below meth c H locs cells slots Q rls n0 hC hok kt kf => by
  obtain ⟨hx, hb, hml, hown, hnm, hts, hK, hf1, hf2, hT, hh1, hh2⟩ := id hC
  have hd := hi
  have hB : -2147483648 ≤ b ∧ b ≤ 2147483647 := hok.hd
  have hA : -2147483648 ≤ a ∧ a ≤ 2147483647 := hok.tl.hd
  exact lv_icmp_le hx hb hd ht (fun q => kf (fun z => by have := (z32_le hA hB).mp q; omega) hok.tl.tl) (fun q => kt (by have : ¬ _ := fun z => q ((z32_le hA hB).mpr z); omega) hok.tl.tl)) kt kf
theorem zO_if_le {a : Int} {off : Int} {tgt : Nat} {y : Option α} (hi : decode Y.2.1 pc = .ok (.ifCond .le off, 3)) (ht : (pc : Int) + off = (tgt : Int)) (kt : 0 < a → zO l E d Y (pc + 3) ls st M cv x) (kf : ¬ 0 < a → zO l E d Y tgt ls st M cv y) : zO l E d Y pc ls (zI a :: st) M cv (if 0 < a then x else y) := zO_br (fun p e Rm s m args below meth c H locs cells slots Q rls n0 hC hok kt kf => by
  obtain ⟨hx, hb, hml, hown, hnm, hts, hK, hf1, hf2, hT, hh1, hh2⟩ := id hC
  have hd := hi
  have hB : -2147483648 ≤ (0 : Int) ∧ (0 : Int) ≤ 2147483647 := (show -2147483648 ≤ (0 : Int) ∧ (0 : Int) ≤ 2147483647 by decide)
  have hA : -2147483648 ≤ a ∧ a ≤ 2147483647 := hok.hd
  exact lv_if_le hx hb hd ht (fun q => kf (fun z => by have := (z32_le hA hB).mp q; omega) hok.tl) (fun q => kt (by have : ¬ _ := fun z => q ((z32_le hA hB).mpr z); omega) hok.tl)) kt kf
theorem zO_ifnonnull {a : Nat} {off : Int} {tgt : Nat} (hi : decode Y.2.1 pc = .ok (.ifnonnull off, 3)) (ht : (pc : Int) + off = (tgt : Int)) (k : zO l E d Y tgt ls st M cv x) : zO l E d Y pc ls (zR a :: st) M cv x := zO_go (fun p e Rm s m args below meth c H locs cells slots Q rls n0 hC hR hL hn hok hl kk => by
  obtain ⟨hx, hb, hml, hown, hnm, hts, hK, hf1, hf2, hT, hh1, hh2⟩ := id hC
  exact lv_ifnonnull hx hb hi ht (kk rls hok.tl hl)) k
theorem zO_ifnonnullN {off : Int} (hi : decode Y.2.1 pc = .ok (.ifnonnull off, 3)) (k : zO l E d Y (pc + 3) ls st M cv x) : zO l E d Y pc ls (zN :: st) M cv x := zO_go (fun p e Rm s m args below meth c H locs cells slots Q rls n0 hC hR hL hn hok hl kk => by
  obtain ⟨hx, hb, hml, hown, hnm, hts, hK, hf1, hf2, hT, hh1, hh2⟩ := id hC
  exact lv_ifnonnullN hx hb hi (kk rls hok.tl hl)) k
theorem zO_tableOut {dflt lo hi : Int} {offs : Array Int} {len : Nat} {a : Int} {tgt : Nat} (hi0 : decode Y.2.1 pc = .ok (.tableswitch dflt lo hi offs, len)) (h : a < lo ∨ hi < a) (ht : (pc : Int) + dflt = (tgt : Int)) (k : zO l E d Y tgt ls st M cv x) : zO l E d Y pc ls (zI a :: st) M cv x := zO_go (fun p e Rm s m args below meth c H locs cells slots Q rls n0 hC hR hL hn hok hl kk => by
  obtain ⟨hx, hb, hml, hown, hnm, hts, hK, hf1, hf2, hT, hh1, hh2⟩ := id hC
  have hA : -2147483648 ≤ a ∧ a ≤ 2147483647 := hok.hd
  exact lv_tableOut hx hb hi0 (by rw [z32 hA]; exact h) ht (kk rls hok.tl hl)) k
theorem zO_tableIn {dflt lo hi : Int} {offs : Array Int} {len : Nat} {a off : Int} {tgt : Nat} (hi0 : decode Y.2.1 pc = .ok (.tableswitch dflt lo hi offs, len)) (ho : ∃ b : Int, a = b ∧ lo ≤ b ∧ b ≤ hi ∧ offs[(b - lo).toNat]? = some off) (ht : (pc : Int) + off = (tgt : Int)) (k : zO l E d Y tgt ls st M cv x) : zO l E d Y pc ls (zI a :: st) M cv x := zO_go (fun p e Rm s m args below meth c H locs cells slots Q rls n0 hC hR hL hn hok hl kk => by
  obtain ⟨hx, hb, hml, hown, hnm, hts, hK, hf1, hf2, hT, hh1, hh2⟩ := id hC
  have hA : -2147483648 ≤ a ∧ a ≤ 2147483647 := hok.hd
  obtain ⟨b, rfl, h1, h2, h3⟩ := ho
  exact lv_tableIn hx hb hi0 (by rw [z32 hA]; omega) (by rw [z32 hA]; omega) (by rw [z32 hA]; exact h3) ht (kk rls hok.tl hl)) k
theorem zcmp_lt {a b : Int} (hA : -9223372036854775808 ≤ a ∧ a ≤ 9223372036854775807) (hB : -9223372036854775808 ≤ b ∧ b ≤ 9223372036854775807) : Int64.ofInt a < Int64.ofInt b ↔ a < b := by
  rw [Int64.lt_iff_toInt_lt, z64 hA, z64 hB]
theorem zlc {a b : Int} (hA : -9223372036854775808 ≤ a ∧ a ≤ 9223372036854775807) (hB : -9223372036854775808 ≤ b ∧ b ≤ 9223372036854775807) : lg_cmp (Int64.ofInt a) (Int64.ofInt b) = Int32.ofInt (if b < a then 1 else if a < b then -1 else 0) := by
  have h1 := zcmp_lt hA hB
  have h2 := zcmp_lt hB hA
  have h3 : Int64.ofInt a = Int64.ofInt b ↔ a = b := by rw [← Int64.toInt_inj, z64 hA, z64 hB]
  unfold lg_cmp
  by_cases q1 : b < a
  · simp [q1, h2]
  · by_cases q2 : a < b
    · have q3 : ¬ a = b := by omega
      simp [q1, q2, q3, h1, h2, h3]
    · have : a = b := by omega
      subst this
      simp
theorem zO_lcmp {a b : Int} (hi : decode Y.2.1 pc = .ok (.lcmp, 1)) (k : zO l E d Y (pc + 1) ls (zI (if b < a then 1 else if a < b then -1 else 0) :: st) M cv x) : zO l E d Y pc ls (zL b :: zL a :: st) M cv x := zO_go (fun p e Rm s m args below meth c H locs cells slots Q rls n0 hC hR hL hn hok hl kk => by
  obtain ⟨hx, hb, hml, hown, hnm, hts, hK, hf1, hf2, hT, hh1, hh2⟩ := id hC
  refine W.lcmp hx hb hi ?_
  rw [zlc hok.tl.hd hok.hd]
  refine kk rls (hok.tl.tl.cons ?_) hl
  show -2147483648 ≤ _ ∧ _ ≤ 2147483647
  split
  · omega
  · split <;> omega) k
theorem zO_lif_eq {a b off : Int} {tgt : Nat} {y : Option α} (hi : decode Y.2.1 pc = .ok (.lcmp, 1)) (hj : decode Y.2.1 (pc + 1) = .ok (.ifCond .eq off, 3)) (ht : ((pc + 1 : Nat) : Int) + off = (tgt : Int)) (kt : a = b → zO l E d Y tgt ls st M cv x) (kf : ¬ a = b → zO l E d Y (pc + 1 + 3) ls st M cv y) : zO l E d Y pc ls (zL b :: zL a :: st) M cv (if a = b then x else y) := by
  refine zO_lcmp hi ?_
  have e : (if a = b then x else y) = (if (if b < a then 1 else if a < b then -1 else 0) = (0 : Int) then x else y) := by
    by_cases q : a = b
    · rw [if_pos q, if_pos (by split <;> (try split) <;> omega)]
    · rw [if_neg q, if_neg (by split <;> (try split) <;> omega)]
  refine zO_eq e ?_
  refine zO_if_eq hj ht (fun q => kt (by revert q; split <;> (try split) <;> omega)) (fun q => kf (by revert q; split <;> (try split) <;> omega))
theorem zO_lif_ne {a b off : Int} {tgt : Nat} {y : Option α} (hi : decode Y.2.1 pc = .ok (.lcmp, 1)) (hj : decode Y.2.1 (pc + 1) = .ok (.ifCond .ne off, 3)) (ht : ((pc + 1 : Nat) : Int) + off = (tgt : Int)) (kt : a = b → zO l E d Y (pc + 1 + 3) ls st M cv x) (kf : ¬ a = b → zO l E d Y tgt ls st M cv y) : zO l E d Y pc ls (zL b :: zL a :: st) M cv (if a = b then x else y) := by
  refine zO_lcmp hi ?_
  have e : (if a = b then x else y) = (if (if b < a then 1 else if a < b then -1 else 0) = (0 : Int) then x else y) := by
    by_cases q : a = b
    · rw [if_pos q, if_pos (by split <;> (try split) <;> omega)]
    · rw [if_neg q, if_neg (by split <;> (try split) <;> omega)]
  refine zO_eq e ?_
  refine zO_if_ne hj ht (fun q => kt (by revert q; split <;> (try split) <;> omega)) (fun q => kf (by revert q; split <;> (try split) <;> omega))
theorem zO_lif_lt {a b off : Int} {tgt : Nat} {y : Option α} (hi : decode Y.2.1 pc = .ok (.lcmp, 1)) (hj : decode Y.2.1 (pc + 1) = .ok (.ifCond .lt off, 3)) (ht : ((pc + 1 : Nat) : Int) + off = (tgt : Int)) (kt : a < b → zO l E d Y tgt ls st M cv x) (kf : ¬ a < b → zO l E d Y (pc + 1 + 3) ls st M cv y) : zO l E d Y pc ls (zL b :: zL a :: st) M cv (if a < b then x else y) := by
  refine zO_lcmp hi ?_
  have e : (if a < b then x else y) = (if (if b < a then 1 else if a < b then -1 else 0) < (0 : Int) then x else y) := by
    by_cases q : a < b
    · rw [if_pos q, if_pos (by split <;> (try split) <;> omega)]
    · rw [if_neg q, if_neg (by split <;> (try split) <;> omega)]
  refine zO_eq e ?_
  refine zO_if_lt hj ht (fun q => kt (by revert q; split <;> (try split) <;> omega)) (fun q => kf (by revert q; split <;> (try split) <;> omega))
theorem zO_lif_ge {a b off : Int} {tgt : Nat} {y : Option α} (hi : decode Y.2.1 pc = .ok (.lcmp, 1)) (hj : decode Y.2.1 (pc + 1) = .ok (.ifCond .ge off, 3)) (ht : ((pc + 1 : Nat) : Int) + off = (tgt : Int)) (kt : a < b → zO l E d Y (pc + 1 + 3) ls st M cv x) (kf : ¬ a < b → zO l E d Y tgt ls st M cv y) : zO l E d Y pc ls (zL b :: zL a :: st) M cv (if a < b then x else y) := by
  refine zO_lcmp hi ?_
  have e : (if a < b then x else y) = (if (if b < a then 1 else if a < b then -1 else 0) < (0 : Int) then x else y) := by
    by_cases q : a < b
    · rw [if_pos q, if_pos (by split <;> (try split) <;> omega)]
    · rw [if_neg q, if_neg (by split <;> (try split) <;> omega)]
  refine zO_eq e ?_
  refine zO_if_ge hj ht (fun q => kt (by revert q; split <;> (try split) <;> omega)) (fun q => kf (by revert q; split <;> (try split) <;> omega))
theorem zO_lif_gt {a b off : Int} {tgt : Nat} {y : Option α} (hi : decode Y.2.1 pc = .ok (.lcmp, 1)) (hj : decode Y.2.1 (pc + 1) = .ok (.ifCond .gt off, 3)) (ht : ((pc + 1 : Nat) : Int) + off = (tgt : Int)) (kt : b < a → zO l E d Y tgt ls st M cv x) (kf : ¬ b < a → zO l E d Y (pc + 1 + 3) ls st M cv y) : zO l E d Y pc ls (zL b :: zL a :: st) M cv (if b < a then x else y) := by
  refine zO_lcmp hi ?_
  have e : (if b < a then x else y) = (if (0 : Int) < (if b < a then 1 else if a < b then -1 else 0) then x else y) := by
    by_cases q : b < a
    · rw [if_pos q, if_pos (by split <;> (try split) <;> omega)]
    · rw [if_neg q, if_neg (by split <;> (try split) <;> omega)]
  refine zO_eq e ?_
  refine zO_if_gt hj ht (fun q => kt (by revert q; split <;> (try split) <;> omega)) (fun q => kf (by revert q; split <;> (try split) <;> omega))
theorem zO_lif_le {a b off : Int} {tgt : Nat} {y : Option α} (hi : decode Y.2.1 pc = .ok (.lcmp, 1)) (hj : decode Y.2.1 (pc + 1) = .ok (.ifCond .le off, 3)) (ht : ((pc + 1 : Nat) : Int) + off = (tgt : Int)) (kt : b < a → zO l E d Y (pc + 1 + 3) ls st M cv x) (kf : ¬ b < a → zO l E d Y tgt ls st M cv y) : zO l E d Y pc ls (zL b :: zL a :: st) M cv (if b < a then x else y) := by
  refine zO_lcmp hi ?_
  have e : (if b < a then x else y) = (if (0 : Int) < (if b < a then 1 else if a < b then -1 else 0) then x else y) := by
    by_cases q : b < a
    · rw [if_pos q, if_pos (by split <;> (try split) <;> omega)]
    · rw [if_neg q, if_neg (by split <;> (try split) <;> omega)]
  refine zO_eq e ?_
  refine zO_if_le hj ht (fun q => kt (by revert q; split <;> (try split) <;> omega)) (fun q => kf (by revert q; split <;> (try split) <;> omega))
theorem zO_ret {r : α} {rv : Option zV} (hi : decode Y.2.1 pc = .ok (zretI rv, 1)) (hst : st = rv.toList) (ho : zretok Y.2.2.2.1 rv) (hr : cv r = (rv, M)) : zO l E d Y pc ls st M cv (some r) := by
  intro r' h'
  cases h'
  rw [hr]
  refine ⟨⟨Nat.le_refl _, Nat.le_refl _⟩, fun hok p e Rm s m args below meth c H locs Q rls n0 s0 hC hR hL hl hn hq => ?_⟩
  obtain ⟨hx, hb, hml, hown, hnm, hts, hK, hf1, hf2, hT, hh1, hh2⟩ := id hC
  subst hst
  exact hq pc H locs rls hi ⟨hok.2, ho⟩ hR hL
end ZP
