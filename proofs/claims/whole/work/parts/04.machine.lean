/-! ===== values, memory, what the heap holds of them ===== -/
abbrev zV : Type := Int ⊕ (Int ⊕ Option Nat)
abbrev zI (z : Int) : zV := Sum.inl z
abbrev zL (z : Int) : zV := Sum.inr (Sum.inl z)
abbrev zR (a : Nat) : zV := Sum.inr (Sum.inr (some a))
abbrev zN : zV := Sum.inr (Sum.inr none)
def zq (z : Int) : zV := Sum.inr (Sum.inr (if z < 0 then none else some z.toNat))
abbrev zP (o : Option Nat) : zV := Sum.inr (Sum.inr o)
theorem zq_pos {z : Int} (h : 0 ≤ z) : zq z = zR z.toNat := by unfold zq; rw [if_neg (by omega)]
theorem zq_nat (b : Nat) : zq (b : Int) = zR b := by unfold zq; rw [if_neg (by omega)]; rfl
def zcat (v : zV) : Nat := match v with
  | .inr (.inl _) => 2
  | _ => 1
abbrev zLs : Type := List (Nat × zV)
/-- of each address: kind (0 none, 1.. objects of class kind - 1, 20.. arrays), length, final fields -/
abbrev zFs : Type := Nat → Nat × Nat × (Nat → Int)
abbrev zDa : Type := Nat → Nat → Int
abbrev zM : Type := zFs × zDa × Nat × Nat
abbrev zRes : Type := Option zV × zM
abbrev zY : Type := MethodName × ByteArray × Nat × Option FieldType × List (Nat × Instr × Nat)
/-- classes and slots; array classes by kind; the heap at the start; the addresses of what is given; the script -/
abbrev zE : Type := va_G × (Nat → ClassId) × Heap × (Nat → Nat) × Nat × (Nat → Int)
def zB (E : zE) : Nat := E.2.2.1.size
def zA (E : zE) : Nat → Prop := fun q => zB E ≤ q
def zad (E : zE) (a : Nat) : Nat := if a < 1000000 then zB E + a else E.2.2.2.1 (a - 1000000)
def zval (E : zE) (v : zV) : Value := match v with
  | .inl z => .int (Int32.ofInt z)
  | .inr (.inl z) => .long (Int64.ofInt z)
  | .inr (.inr none) => .null
  | .inr (.inr (some a)) => .ref (zad E a)
def zvk (v : zV) : Prop := match v with
  | .inl z => -2147483648 ≤ z ∧ z ≤ 2147483647
  | .inr (.inl z) => -9223372036854775808 ≤ z ∧ z ≤ 9223372036854775807
  | _ => True
def zoks (ls : zLs) (st : List zV) : Prop := (∀ q ∈ ls, zvk q.2) ∧ ∀ v ∈ st, zvk v
def zlv (E : zE) (ls : zLs) : List (Nat × Value) := ls.map (fun q => (q.1, zval E q.2))
def zdec (t : FieldType) (z : Int) : zV := match t with
  | .long => zL z
  | .object _ => zq z
  | .array _ => zq z
  | _ => zI z
def zfok (t : FieldType) (z : Int) : Prop := match t with
  | .int => -2147483648 ≤ z ∧ z ≤ 2147483647
  | .boolean => z = 0 ∨ z = 1
  | .byte => -128 ≤ z ∧ z ≤ 127
  | .long => -9223372036854775808 ≤ z ∧ z ≤ 9223372036854775807
  | .object _ => True
  | .array _ => True
  | _ => False
def zfv (F : zFs) (D : zDa) (a c k : Nat) : Int := if (ztb c k).2.2.2 = true then (F a).2.2 k else D a k
def zro (E : zE) (z : Int) : Option Nat := if z < 0 then none else some (zad E z.toNat)
def zfs (E : zE) (F : zFs) (D : zDa) (a c : Nat) : List Value := (List.range (zfn c)).map (fun k => zval E (zdec (zty c k) (zfv F D a c k)))
def zent (E : zE) (F : zFs) (D : zDa) (a : Nat) : va_E := match (F a).1 with
  | 20 => .inl (E.2.1 20, (F a).2.1, .inl (fun j => Int32.ofInt (D a j)))
  | 21 => .inl (E.2.1 21, (F a).2.1, .inr (.inl (fun j => Int64.ofInt (D a j))))
  | 22 => .inl (E.2.1 22, (F a).2.1, .inl (fun j => Int32.ofInt (D a j)))
  | 23 => .inl (E.2.1 23, (F a).2.1, .inl (fun j => Int32.ofInt (D a j)))
  | 24 => .inl (E.2.1 24, (F a).2.1, .inr (.inr (.inr (.inr (fun j => zro E (D a j))))))
  | 25 => .inl (E.2.1 25, (F a).2.1, .inr (.inr (.inr (.inr (fun j => zro E (D a j))))))
  | k => .inr (k - 1, zfs E F D a (k - 1))
def zcok (F : zFs) (D : zDa) (a : Nat) : Prop := match (F a).1 with
  | 20 => ∀ j, -2147483648 ≤ D a j ∧ D a j ≤ 2147483647
  | 21 => ∀ j, -9223372036854775808 ≤ D a j ∧ D a j ≤ 9223372036854775807
  | 22 => ∀ j, -128 ≤ D a j ∧ D a j ≤ 127
  | 23 => ∀ j, D a j = 0 ∨ D a j = 1
  | 24 => True
  | 25 => True
  | k => (1 ≤ k ∧ k ≤ 13) ∧ ∀ j, j < zfn (k - 1) → zfok (zty (k - 1) j) (zfv F D a (k - 1) j)
def zws (E : zE) (F : zFs) (D : zDa) (n : Nat) : va_W := (List.range n).map (fun a => (zB E + a, zent E F D a))
def zRep (E : zE) (M : zM) (H : Heap) : Prop :=
  H.size = zB E + M.2.2.1 ∧ va_P E.1 zcl (zws E M.1 M.2.1 M.2.2.1) H ∧ (∀ q : Nat, q < zB E → H[q]? = E.2.2.1[q]?) ∧ (∀ a, a < M.2.2.1 → zcok M.1 M.2.1 a ∧ (M.1 a).2.1 ≤ 1000000) ∧ M.2.2.1 ≤ 900000 ∧ ∀ a, M.2.2.1 ≤ a → (M.1 a).1 = 0
def znest : List Cond := [.methodLinkNest "ExamSlips" 9 yX9_init "ExamSlips", .methodLinkNest "ExamSlips" 43 yX6_init "ExamSlips", .methodLinkNest "ExamSlips" 100 yX5_init "ExamSlips", .fieldLinkNest "ExamSlips$State" 27 "ExamSlips" "TERMS_AT_FIRST" "[I" "ExamSlips", .castable "[I" "java/lang/Cloneable", .arrayOver (.object "ExamSlips$State"), .arrayOver (.object "ExamSlips$Paper")]
def ztys (E : zE) : List (ClassId × FieldType) := [(E.2.1 20, .int), (E.2.1 21, .long), (E.2.1 22, .byte), (E.2.1 23, .boolean), (E.2.1 24, .object "ExamSlips$State"), (E.2.1 25, .object "ExamSlips$Paper")]
def zTL : List Int := [1, 1, 1, 0, 0, 1, 0]
def zTM : List Int := [10, 3, 3, 100, 100, 20, 16]
def zTF : List Int := [8, 3, 2, 0, 10, 19, 6]
def zs0 : List Int32 := [104, 111, 117, 114, 115, 32, 107, 101, 101, 112, 115, 32, 99, 104, 97, 110, 99, 101, 32]
def zs1 : List Int32 := [107, 105, 110, 103, 32, 112, 97, 103, 101, 115, 32, 108, 101, 118, 101, 108, 32, 104, 101, 108, 112, 101, 100, 32, 108, 105, 107, 101, 100, 32, 100, 97, 121, 32, 113, 117, 101, 115, 116, 105, 111, 110, 32]
def zs2 : List Int32 := [105, 102, 32, 111, 114, 32, 97, 110, 100, 32, 110, 111, 116, 32]
def zsby : List (List Int32) := [zs0, zs1, zs2]
/-- the given int arrays: the script, the terms' bounds and first values -/
def zgl (E : zE) (j : Nat) : Nat := match j with
  | 0 => E.2.2.2.2.1
  | _ => 7
def zga (E : zE) (j k : Nat) : Int := match j with
  | 0 => E.2.2.2.2.2 k
  | 1 => zTL.getD k 0
  | 2 => zTM.getD k 0
  | _ => zTF.getD k 0
/-- a static of the JDK's of which only this is known -/
def zKF (E : zE) (s : State) : Prop := va_Z "jdk/internal/util/Preconditions" "SIOOBE_FORMATTER" "Ljava/util/function/BiFunction;" .null (zA E) s E.2.2.1 ∨ va_Z "jdk/internal/util/Preconditions" "SIOOBE_FORMATTER" "Ljava/util/function/BiFunction;" (.ref (E.2.2.2.1 4)) (zA E) s E.2.2.1
def zKn (E : zE) (s : State) : Prop :=
  va_K E.1 zcl (ztys E) s ∧ (∀ w ∈ znest, va_Nw w s) ∧
  (va_Z "ExamSlips" "TERMS_LEAST" "[I" (.ref (E.2.2.2.1 1)) (zA E) s E.2.2.1 ∧ va_Z "ExamSlips" "TERMS_MOST" "[I" (.ref (E.2.2.2.1 2)) (zA E) s E.2.2.1 ∧ va_Z "ExamSlips" "TERMS_AT_FIRST" "[I" (.ref (E.2.2.2.1 3)) (zA E) s E.2.2.1 ∧ va_Z "java/lang/String" "COMPACT_STRINGS" "Z" (.int 1) (zA E) s E.2.2.1) ∧
  (∀ j, j < 4 → va_X (E.2.2.2.1 j) (zgl E j) (fun k => Int32.ofInt (zga E j k)) s E.2.2.1 ∧ E.2.2.2.1 j < zB E ∧ zgl E j ≤ 1000000 ∧ ∀ k, -2147483648 ≤ zga E j k ∧ zga E j k ≤ 2147483647) ∧
  vk_R "ExamSlips$Reader" 88 "hours keeps chance " (E.2.2.2.1 10) s ∧ vk_R "ExamSlips$Reader" 94 "king pages level helped liked day question " (E.2.2.2.1 11) s ∧ vk_R "ExamSlips$Reader" 96 "if or and not " (E.2.2.2.1 12) s ∧
  vk_S 3 [19, 43, 14] zsby (fun i => E.2.2.2.1 (10 + i)) (fun i => E.2.2.2.1 (20 + i)) (zA E) s E.2.2.1 ∧
  ∃ cell : Cell, E.2.2.1[E.2.2.2.1 3]? = some cell ∧ s.vm.findClass "[I" = some cell.cls ∧ zKF E s
theorem zKn.warm {E : zE} {s U : State} (hW : s.WarmedH U.vm) (h : zKn E s) : zKn E U := by
  obtain ⟨h1, h2, ⟨h3, h4, h5, h6⟩, h7, h8, h9, h10, h11, cell, h12, h13, h14⟩ := h
  have hv := hW.alike
  refine ⟨va_K.moved hv h1, ?_, ⟨h3.moved hv, h4.moved hv, h5.moved hv, h6.moved hv⟩, fun j hj => ⟨(h7 j hj).1.moved hv, (h7 j hj).2⟩, h8.warm hW, h9.warm hW, h10.warm hW, h11.moved hv, cell, h12, by rw [hv.findClass]; exact h13, h14.imp (fun h => h.moved hv) (fun h => h.moved hv)⟩
  intro w hw
  have hz := h2 w hw
  simp only [znest, List.mem_cons, List.not_mem_nil, or_false] at hw
  rcases hw with rfl | rfl | rfl | rfl | rfl | rfl | rfl
  · exact va_Nw.warmM hW hz
  · exact va_Nw.warmM hW hz
  · exact va_Nw.warmM hW hz
  · exact va_Nw.warmF hW hz
  · exact va_Nw.warmC hW hz
  · exact va_AO.moved hv hz
  · exact va_AO.moved hv hz
def zCx (l : Launch) (E : zE) (d : Nat) (Y : zY) (n0 : Nat) (p : Program) (R : Room) (s : State) (m : MethodId) (args : Array Value) (meth : Method) (c : Code) : Prop :=
  p.tables.exec = Jvm.exec ∧ c.code = Y.2.1 ∧ c.maxLocals = Y.2.2.1 ∧ s.vm.findClass Y.1.cls = some m.cls ∧ meth.name = Y.1.name ∧ (∀ w ∈ zgood, w.before args s = true) ∧ zKn E s ∧ d + 1 ≤ R.frames ∧ 64 * (d + 1) ≤ R.locals ∧ (∀ q ∈ Y.2.2.2.2, decode Y.2.1 q.1 = .ok q.2) ∧ s.heap.size = zB E + n0 ∧ ∀ q : Nat, q < zB E → s.heap[q]? = E.2.2.1[q]?
def zretI (r : Option zV) : Instr := match r with
  | none => .return_
  | some (.inl _) => .ireturn
  | some (.inr (.inl _)) => .lreturn
  | some (.inr (.inr _)) => .areturn
def zretok (t : Option FieldType) (r : Option zV) : Prop := match t, r with
  | none, none => True
  | some t, some (.inl z) => narrow t (.int (Int32.ofInt z)) = .int (Int32.ofInt z)
  | some .long, some (.inr (.inl _)) => True
  | some (.object _), some (.inr (.inr _)) => True
  | some (.array _), some (.inr (.inr _)) => True
  | _, _ => False
def zT (l : Launch) (E : zE) (d : Nat) (Y : zY) (pc : Nat) (ls : zLs) (st : List zV) (M : zM) (R : zRes) : Prop :=
  (M.2.2.1 ≤ R.2.2.2.1 ∧ M.2.2.2 ≤ R.2.2.2.2) ∧
  (zoks ls st → ∀ (p : Program) (e : Env) (Rm : Room) (s : State) (m : MethodId) (args : Array Value) (below : List Frame) (meth : Method) (c : Code) (H : Heap) (locs : List Loc) (Q : State → Prop) (rls : Array Slot) (n0 s0 : Nat),
    zCx l E d Y n0 p Rm s m args meth c → zRep E M H → (∀ q ∈ locs, zA E q.base) → lv_has rls Y.2.2.1 (zlv E ls) → n0 ≤ M.2.2.1 ∧ s0 ≤ M.2.2.2 ∧ R.2.2.2.1 - n0 ≤ Rm.cells ∧ R.2.2.2.2 - s0 ≤ Rm.slots →
    (∀ (pcr : Nat) (H' : Heap) (locs' : List Loc) (rls' : Array Slot), decode Y.2.1 pcr = .ok (zretI R.1, 1) → (∀ v ∈ R.1.toList, zvk v) ∧ zretok Y.2.2.2.1 R.1 → zRep E R.2 H' → (∀ q ∈ locs', zA E q.base) → W p l e Rm s m args below meth c H' locs' (R.2.2.2.1 - n0) (R.2.2.2.2 - s0) Q (F0 m pcr rls' (R.1.toList.map (zval E)))) →
    W p l e Rm s m args below meth c H locs (M.2.2.1 - n0) (M.2.2.2 - s0) Q (F0 m pc rls (st.map (zval E))))
def zO {α : Type} (l : Launch) (E : zE) (d : Nat) (Y : zY) (pc : Nat) (ls : zLs) (st : List zV) (M : zM) (cv : α → zRes) (x : Option α) : Prop := ∀ r, x = some r → zT l E d Y pc ls st M (cv r)
/-! ===== rules that follow the shape of the pure text ===== -/
section ZF
variable {α β : Type} {l : Launch} {E : zE} {d : Nat} {Y : zY} {pc : Nat} {ls : zLs} {st : List zV} {M : zM} {cv : α → zRes} {x : Option α}
theorem zO_none : zO l E d Y pc ls st M cv (none : Option α) := fun r h => by cases h
theorem zO_chk {c : Prop} [Decidable c] (k : c → zO l E d Y pc ls st M cv x) : zO l E d Y pc ls st M cv (if c then x else none) := by
  intro r h
  by_cases hc : c
  · rw [if_pos hc] at h; exact k hc r h
  · rw [if_neg hc] at h; cases h
theorem zO_ite {c : Prop} [Decidable c] {y : Option α} (kt : c → zO l E d Y pc ls st M cv x) (kf : ¬ c → zO l E d Y pc ls st M cv y) : zO l E d Y pc ls st M cv (if c then x else y) := by
  intro r h
  by_cases hc : c
  · rw [if_pos hc] at h; exact kt hc r h
  · rw [if_neg hc] at h; exact kf hc r h
theorem zO_eq {y : Option α} (h : x = y) (k : zO l E d Y pc ls st M cv y) : zO l E d Y pc ls st M cv x := h ▸ k
/-- an instruction that leaves the memory alone -/
theorem zO_go {pc' : Nat} {ls' : zLs} {st' : List zV}
    (h : ∀ (p : Program) (e : Env) (Rm : Room) (s : State) (m : MethodId) (args : Array Value) (below : List Frame) (meth : Method) (c : Code) (H : Heap) (locs : List Loc) (cells slots : Nat) (Q : State → Prop) (rls : Array Slot) (n0 : Nat), zCx l E d Y n0 p Rm s m args meth c → zRep E M H → (∀ q ∈ locs, zA E q.base) → n0 ≤ M.2.2.1 → zoks ls st → lv_has rls Y.2.2.1 (zlv E ls) → (∀ rls' : Array Slot, zoks ls' st' → lv_has rls' Y.2.2.1 (zlv E ls') → W p l e Rm s m args below meth c H locs cells slots Q (F0 m pc' rls' (st'.map (zval E)))) → W p l e Rm s m args below meth c H locs cells slots Q (F0 m pc rls (st.map (zval E))))
    (k : zO l E d Y pc' ls' st' M cv x) : zO l E d Y pc ls st M cv x := by
  intro r hr
  obtain ⟨hm, hk⟩ := k r hr
  refine ⟨hm, fun hok p e Rm s m args below meth c H locs Q rls n0 s0 hC hR hL hl hn hq => ?_⟩
  exact h p e Rm s m args below meth c H locs _ _ Q rls n0 hC hR hL hn.1 hok hl (fun rls' hok' hl' => hk hok' p e Rm s m args below meth c H locs Q rls' n0 s0 hC hR hL hl' hn hq)
end ZF
theorem zoks.tl {ls : zLs} {v : zV} {st : List zV} (h : zoks ls (v :: st)) : zoks ls st := ⟨h.1, fun w hw => h.2 w (List.mem_cons_of_mem _ hw)⟩
theorem zoks.hd {ls : zLs} {v : zV} {st : List zV} (h : zoks ls (v :: st)) : zvk v := h.2 v List.mem_cons_self
theorem zoks.cons {ls : zLs} {v : zV} {st : List zV} (h : zoks ls st) (hv : zvk v) : zoks ls (v :: st) := ⟨h.1, fun w hw => by rcases List.mem_cons.mp hw with rfl | hw; exact hv; exact h.2 w hw⟩
theorem zcat_val (E : zE) (v : zV) : (zval E v).category = zcat v := by
  rcases v with z | z | _ | a <;> rfl
theorem zmem {Y : zY} {i : Nat} {q : Nat × Instr × Nat} (h : Y.2.2.2.2[i]? = some q) : q ∈ Y.2.2.2.2 := List.mem_of_getElem? h
theorem z32 {z : Int} (h : -2147483648 ≤ z ∧ z ≤ 2147483647) : (Int32.ofInt z).toInt = z := Int32.toInt_ofInt_of_le (by omega) (by omega)
theorem z64 {z : Int} (h : -9223372036854775808 ≤ z ∧ z ≤ 9223372036854775807) : (Int64.ofInt z).toInt = z := Int64.toInt_ofInt_of_le (by omega) (by omega)
theorem z32_inj {a b : Int} (ha : -2147483648 ≤ a ∧ a ≤ 2147483647) (hb : -2147483648 ≤ b ∧ b ≤ 2147483647) : Int32.ofInt a = Int32.ofInt b ↔ a = b := by
  rw [← Int32.toInt_inj, z32 ha, z32 hb]
theorem z32_lt {a b : Int} (ha : -2147483648 ≤ a ∧ a ≤ 2147483647) (hb : -2147483648 ≤ b ∧ b ≤ 2147483647) : Int32.ofInt a < Int32.ofInt b ↔ a < b := by
  rw [Int32.lt_iff_toInt_lt, z32 ha, z32 hb]
theorem z32_le {a b : Int} (ha : -2147483648 ≤ a ∧ a ≤ 2147483647) (hb : -2147483648 ≤ b ∧ b ≤ 2147483647) : Int32.ofInt a ≤ Int32.ofInt b ↔ a ≤ b := by
  rw [Int32.le_iff_toInt_le, z32 ha, z32 hb]
theorem z32_nat {a : Int} (ha : -2147483648 ≤ a ∧ a ≤ 2147483647) : (Int32.ofInt a).toNatClampNeg = a.toNat := by
  show (Int32.ofInt a).toInt.toNat = _
  rw [z32 ha]
theorem z32_in {a : Int} {n : Nat} (ha : -2147483648 ≤ a ∧ a ≤ 2147483647) (h : 0 ≤ a ∧ a < n) : vp_in (Int32.ofInt a) n := by
  rw [vp_in_iff, z32 ha]; exact h
theorem z32_rng (x : Int32) : -2147483648 ≤ x.toInt ∧ x.toInt ≤ 2147483647 := by
  have h1 := Int32.le_toInt x
  have h2 := Int32.toInt_lt x
  omega
theorem z64_rng (x : Int64) : -9223372036854775808 ≤ x.toInt ∧ x.toInt ≤ 9223372036854775807 := by
  have h1 := Int64.le_toInt x
  have h2 := Int64.toInt_lt x
  omega
/-- a local by its number -/
def zget (ls : zLs) (i : Nat) : Option zV := match ls with
  | [] => none
  | (j, w) :: r => if j = i then some w else zget r i
theorem zget_mem {ls : zLs} {i : Nat} {v : zV} (h : zget ls i = some v) : (i, v) ∈ ls := by
  induction ls with
  | nil => cases h
  | cons q r ih =>
    obtain ⟨j, w⟩ := q
    simp only [zget] at h
    split at h
    · next e => subst e; cases h; exact List.mem_cons_self
    · exact List.mem_cons_of_mem _ (ih h)
theorem zget_at {E : zE} {ls : zLs} {i nL : Nat} {v : zV} {rls : Array Slot} (h : zget ls i = some v) (hl : lv_has rls nL (zlv E ls)) : rls[i]? = some (.val (zval E v)) :=
  hl.2.2 (i, zval E v) (List.mem_map.mpr ⟨(i, v), zget_mem h, rfl⟩)
def zins (i : Nat) (v : zV) (ls : zLs) : zLs := match ls with
  | [] => [(i, v)]
  | q :: r => if i < q.1 then (i, v) :: q :: r else q :: zins i v r
def zput1 (ls : zLs) (i : Nat) (v : zV) : zLs := zins i v (ls.filter (fun q => !(q.1 == i) && !(q.1 + 1 == i && zcat q.2 == 2)))
def zput2 (ls : zLs) (i : Nat) (v : zV) : zLs := zins i v (ls.filter (fun q => !(q.1 == i) && (!(q.1 == i + 1) && !(q.1 + 1 == i && zcat q.2 == 2))))
theorem zins_mem {i : Nat} {v : zV} {ls : zLs} {q : Nat × zV} (h : q ∈ zins i v ls) : q = (i, v) ∨ q ∈ ls := by
  induction ls with
  | nil => exact Or.inl (List.mem_singleton.mp h)
  | cons p r ih =>
    simp only [zins] at h
    split at h
    · rcases List.mem_cons.mp h with h | h
      · exact Or.inl h
      · exact Or.inr h
    · rcases List.mem_cons.mp h with h | h
      · exact Or.inr (List.mem_cons.mpr (Or.inl h))
      · rcases ih h with h | h
        · exact Or.inl h
        · exact Or.inr (List.mem_cons_of_mem _ h)
theorem zput1_has {E : zE} {ls : zLs} {i nL : Nat} {v : zV} {rls : Array Slot} (h : lv_has rls nL ((i, zval E v) :: (zlv E ls).filter (fun q => !(q.1 == i) && !(q.1 + 1 == i && q.2.category == 2)))) : lv_has rls nL (zlv E (zput1 ls i v)) := by
  refine ⟨h.1, h.2.1, fun q hq => ?_⟩
  obtain ⟨q0, hq0, rfl⟩ := List.mem_map.mp hq
  rcases zins_mem hq0 with rfl | hq1
  · exact h.2.2 _ List.mem_cons_self
  · obtain ⟨h1, h2⟩ := List.mem_filter.mp hq1
    exact h.2.2 _ (List.mem_cons_of_mem _ (List.mem_filter.mpr ⟨List.mem_map.mpr ⟨q0, h1, rfl⟩, by rw [← zcat_val E] at h2; exact h2⟩))
theorem zput2_has {E : zE} {ls : zLs} {i nL : Nat} {v : zV} {rls : Array Slot} (h : lv_has rls nL ((i, zval E v) :: (zlv E ls).filter (fun q => !(q.1 == i) && (!(q.1 == i + 1) && !(q.1 + 1 == i && q.2.category == 2))))) : lv_has rls nL (zlv E (zput2 ls i v)) := by
  refine ⟨h.1, h.2.1, fun q hq => ?_⟩
  obtain ⟨q0, hq0, rfl⟩ := List.mem_map.mp hq
  rcases zins_mem hq0 with rfl | hq1
  · exact h.2.2 _ List.mem_cons_self
  · obtain ⟨h1, h2⟩ := List.mem_filter.mp hq1
    exact h.2.2 _ (List.mem_cons_of_mem _ (List.mem_filter.mpr ⟨List.mem_map.mpr ⟨q0, h1, rfl⟩, by rw [← zcat_val E] at h2; exact h2⟩))
theorem zput1_ok {ls : zLs} {i : Nat} {v : zV} {st : List zV} (h : zoks ls st) (hv : zvk v) : zoks (zput1 ls i v) st := ⟨fun q hq => by
  rcases zins_mem hq with rfl | hq
  · exact hv
  · exact h.1 q (List.mem_filter.mp hq).1, h.2⟩
theorem zput2_ok {ls : zLs} {i : Nat} {v : zV} {st : List zV} (h : zoks ls st) (hv : zvk v) : zoks (zput2 ls i v) st := ⟨fun q hq => by
  rcases zins_mem hq with rfl | hq
  · exact hv
  · exact h.1 q (List.mem_filter.mp hq).1, h.2⟩
