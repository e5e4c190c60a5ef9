/-! ===== judgements over the pure text: qS x P: x comes to an answer with P ===== -/
def qS {α : Type} (x : Option α) (P : α → Prop) : Prop := ∃ r, x = some r ∧ P r
section ZS
variable {α β : Type}
theorem qS_ret {r : α} {P : α → Prop} (h : P r) : qS (some r) P := ⟨r, rfl, h⟩
theorem qS_eq {x y : Option α} {P : α → Prop} (e : x = y) (h : qS y P) : qS x P := e ▸ h
theorem qS_of {x : Option α} {r : α} {P : α → Prop} (e : x = some r) (h : P r) : qS x P := ⟨r, e, h⟩
theorem qS_bind {x : Option α} {f : α → Option β} {P : β → Prop} (h : qS x (fun r => qS (f r) P)) : qS (x.bind f) P := by
  obtain ⟨r, e, s, e2, hp⟩ := h
  exact ⟨s, by rw [e]; exact e2, hp⟩
theorem qS_mono {x : Option α} {P Q : α → Prop} (h : qS x P) (k : ∀ r, P r → Q r) : qS x Q := by
  obtain ⟨r, e, hp⟩ := h
  exact ⟨r, e, k r hp⟩
theorem qS_call {x : Option α} {f : α → Option β} {P : β → Prop} {Q : α → Prop} (h : qS x Q) (k : ∀ r, Q r → qS (f r) P) : qS (x.bind f) P := qS_bind (qS_mono h k)
theorem qS_step {x : Option α} {r : α} {f : α → Option β} {P : β → Prop} (h : x = some r) (k : qS (f r) P) : qS (x.bind f) P := by
  rw [h]; exact k
theorem qS_chk {c : Prop} [Decidable c] {x : Option α} {P : α → Prop} (hc : c) (h : qS x P) : qS (if c then x else none) P := by
  rw [if_pos hc]; exact h
theorem qS_ite {c : Prop} [Decidable c] {x y : Option α} {P : α → Prop} (h1 : c → qS x P) (h2 : ¬ c → qS y P) : qS (if c then x else y) P := by
  by_cases hc : c
  · rw [if_pos hc]; exact h1 hc
  · rw [if_neg hc]; exact h2 hc
theorem qS_pos {c : Prop} [Decidable c] {x y : Option α} {P : α → Prop} (hc : c) (h : qS x P) : qS (if c then x else y) P := by
  rw [if_pos hc]; exact h
theorem qS_neg {c : Prop} [Decidable c] {x y : Option α} {P : α → Prop} (hc : ¬ c) (h : qS y P) : qS (if c then x else y) P := by
  rw [if_neg hc]; exact h
theorem qS_let {e : α} {g : α → Option β} {P : β → Prop} (h : ∀ v, v = e → qS (g v) P) : qS (zlet e g) P := h e rfl
theorem qS_leti {e : α} {g : α → Option β} {P : β → Prop} (h : qS (g e) P) : qS (zlet e g) P := h
theorem zfix_ind {bot : α} {step : α → α} (G : Nat → α → Prop) (h0 : G 0 bot) (hs : ∀ n k, G n k → G (n + 1) (step k)) : ∀ N, G N (zfix bot step N)
  | 0 => h0
  | N + 1 => hs N _ (zfix_ind G h0 hs N)
theorem zfix_succ {bot : α} {step : α → α} (N : Nat) : zfix bot step (N + 1) = step (zfix bot step N) := rfl
end ZS
theorem qloop0 {β : Type} {step : (zDa → Option β) → zDa → Option β} (I : zDa → Prop) (m : zDa → Nat) {P : β → Prop}
    (hs : ∀ (k : zDa → Option β)  (D : zDa), I D → (∀  (D' : zDa), I D' → m D' < m D → qS (k D') P) → qS (step k D) P)
    {N : Nat}  {D : zDa} (hI : I D) (hm : m D < N) : qS (zfix (fun _ => none) step N D) P := by
  have h := zfix_ind (bot := fun  (_ : zDa) => (none : Option β)) (step := step) (fun n k => ∀  (D : zDa), I D → m D < n → qS (k D) P)
    (fun _ _ h => absurd h (Nat.not_lt_zero _))
    (fun n k ih  D hI hm => hs k D hI (fun  D' hI' hlt => ih D' hI' (by omega)))
  exact h N D hI hm
theorem qloop1 {β : Type} {step : (Int → zDa → Option β) → Int → zDa → Option β} (I : Int → zDa → Prop) (m : Int → zDa → Nat) {P : β → Prop}
    (hs : ∀ (k : Int → zDa → Option β) (v0 : Int) (D : zDa), I v0 D → (∀ (u0 : Int) (D' : zDa), I u0 D' → m u0 D' < m v0 D → qS (k u0 D') P) → qS (step k v0 D) P)
    {N : Nat} {v0 : Int} {D : zDa} (hI : I v0 D) (hm : m v0 D < N) : qS (zfix (fun _ _ => none) step N v0 D) P := by
  have h := zfix_ind (bot := fun (_ : Int) (_ : zDa) => (none : Option β)) (step := step) (fun n k => ∀ (v0 : Int) (D : zDa), I v0 D → m v0 D < n → qS (k v0 D) P)
    (fun _ _ _ h => absurd h (Nat.not_lt_zero _))
    (fun n k ih v0 D hI hm => hs k v0 D hI (fun u0 D' hI' hlt => ih u0 D' hI' (by omega)))
  exact h N v0 D hI hm
theorem qloop2 {β : Type} {step : (Int → Int → zDa → Option β) → Int → Int → zDa → Option β} (I : Int → Int → zDa → Prop) (m : Int → Int → zDa → Nat) {P : β → Prop}
    (hs : ∀ (k : Int → Int → zDa → Option β) (v0 : Int) (v1 : Int) (D : zDa), I v0 v1 D → (∀ (u0 : Int) (u1 : Int) (D' : zDa), I u0 u1 D' → m u0 u1 D' < m v0 v1 D → qS (k u0 u1 D') P) → qS (step k v0 v1 D) P)
    {N : Nat} {v0 : Int} {v1 : Int} {D : zDa} (hI : I v0 v1 D) (hm : m v0 v1 D < N) : qS (zfix (fun _ _ _ => none) step N v0 v1 D) P := by
  have h := zfix_ind (bot := fun (_ : Int) (_ : Int) (_ : zDa) => (none : Option β)) (step := step) (fun n k => ∀ (v0 : Int) (v1 : Int) (D : zDa), I v0 v1 D → m v0 v1 D < n → qS (k v0 v1 D) P)
    (fun _ _ _ _ h => absurd h (Nat.not_lt_zero _))
    (fun n k ih v0 v1 D hI hm => hs k v0 v1 D hI (fun u0 u1 D' hI' hlt => ih u0 u1 D' hI' (by omega)))
  exact h N v0 v1 D hI hm
theorem qloop3 {β : Type} {step : (Int → Int → Int → zDa → Option β) → Int → Int → Int → zDa → Option β} (I : Int → Int → Int → zDa → Prop) (m : Int → Int → Int → zDa → Nat) {P : β → Prop}
    (hs : ∀ (k : Int → Int → Int → zDa → Option β) (v0 : Int) (v1 : Int) (v2 : Int) (D : zDa), I v0 v1 v2 D → (∀ (u0 : Int) (u1 : Int) (u2 : Int) (D' : zDa), I u0 u1 u2 D' → m u0 u1 u2 D' < m v0 v1 v2 D → qS (k u0 u1 u2 D') P) → qS (step k v0 v1 v2 D) P)
    {N : Nat} {v0 : Int} {v1 : Int} {v2 : Int} {D : zDa} (hI : I v0 v1 v2 D) (hm : m v0 v1 v2 D < N) : qS (zfix (fun _ _ _ _ => none) step N v0 v1 v2 D) P := by
  have h := zfix_ind (bot := fun (_ : Int) (_ : Int) (_ : Int) (_ : zDa) => (none : Option β)) (step := step) (fun n k => ∀ (v0 : Int) (v1 : Int) (v2 : Int) (D : zDa), I v0 v1 v2 D → m v0 v1 v2 D < n → qS (k v0 v1 v2 D) P)
    (fun _ _ _ _ _ h => absurd h (Nat.not_lt_zero _))
    (fun n k ih v0 v1 v2 D hI hm => hs k v0 v1 v2 D hI (fun u0 u1 u2 D' hI' hlt => ih u0 u1 u2 D' hI' (by omega)))
  exact h N v0 v1 v2 D hI hm
theorem qloop4 {β : Type} {step : (Int → Int → Int → Int → zDa → Option β) → Int → Int → Int → Int → zDa → Option β} (I : Int → Int → Int → Int → zDa → Prop) (m : Int → Int → Int → Int → zDa → Nat) {P : β → Prop}
    (hs : ∀ (k : Int → Int → Int → Int → zDa → Option β) (v0 : Int) (v1 : Int) (v2 : Int) (v3 : Int) (D : zDa), I v0 v1 v2 v3 D → (∀ (u0 : Int) (u1 : Int) (u2 : Int) (u3 : Int) (D' : zDa), I u0 u1 u2 u3 D' → m u0 u1 u2 u3 D' < m v0 v1 v2 v3 D → qS (k u0 u1 u2 u3 D') P) → qS (step k v0 v1 v2 v3 D) P)
    {N : Nat} {v0 : Int} {v1 : Int} {v2 : Int} {v3 : Int} {D : zDa} (hI : I v0 v1 v2 v3 D) (hm : m v0 v1 v2 v3 D < N) : qS (zfix (fun _ _ _ _ _ => none) step N v0 v1 v2 v3 D) P := by
  have h := zfix_ind (bot := fun (_ : Int) (_ : Int) (_ : Int) (_ : Int) (_ : zDa) => (none : Option β)) (step := step) (fun n k => ∀ (v0 : Int) (v1 : Int) (v2 : Int) (v3 : Int) (D : zDa), I v0 v1 v2 v3 D → m v0 v1 v2 v3 D < n → qS (k v0 v1 v2 v3 D) P)
    (fun _ _ _ _ _ _ h => absurd h (Nat.not_lt_zero _))
    (fun n k ih v0 v1 v2 v3 D hI hm => hs k v0 v1 v2 v3 D hI (fun u0 u1 u2 u3 D' hI' hlt => ih u0 u1 u2 u3 D' hI' (by omega)))
  exact h N v0 v1 v2 v3 D hI hm
theorem qloop5 {β : Type} {step : (Int → Int → Int → Int → Int → zDa → Option β) → Int → Int → Int → Int → Int → zDa → Option β} (I : Int → Int → Int → Int → Int → zDa → Prop) (m : Int → Int → Int → Int → Int → zDa → Nat) {P : β → Prop}
    (hs : ∀ (k : Int → Int → Int → Int → Int → zDa → Option β) (v0 : Int) (v1 : Int) (v2 : Int) (v3 : Int) (v4 : Int) (D : zDa), I v0 v1 v2 v3 v4 D → (∀ (u0 : Int) (u1 : Int) (u2 : Int) (u3 : Int) (u4 : Int) (D' : zDa), I u0 u1 u2 u3 u4 D' → m u0 u1 u2 u3 u4 D' < m v0 v1 v2 v3 v4 D → qS (k u0 u1 u2 u3 u4 D') P) → qS (step k v0 v1 v2 v3 v4 D) P)
    {N : Nat} {v0 : Int} {v1 : Int} {v2 : Int} {v3 : Int} {v4 : Int} {D : zDa} (hI : I v0 v1 v2 v3 v4 D) (hm : m v0 v1 v2 v3 v4 D < N) : qS (zfix (fun _ _ _ _ _ _ => none) step N v0 v1 v2 v3 v4 D) P := by
  have h := zfix_ind (bot := fun (_ : Int) (_ : Int) (_ : Int) (_ : Int) (_ : Int) (_ : zDa) => (none : Option β)) (step := step) (fun n k => ∀ (v0 : Int) (v1 : Int) (v2 : Int) (v3 : Int) (v4 : Int) (D : zDa), I v0 v1 v2 v3 v4 D → m v0 v1 v2 v3 v4 D < n → qS (k v0 v1 v2 v3 v4 D) P)
    (fun _ _ _ _ _ _ _ h => absurd h (Nat.not_lt_zero _))
    (fun n k ih v0 v1 v2 v3 v4 D hI hm => hs k v0 v1 v2 v3 v4 D hI (fun u0 u1 u2 u3 u4 D' hI' hlt => ih u0 u1 u2 u3 u4 D' hI' (by omega)))
  exact h N v0 v1 v2 v3 v4 D hI hm
theorem qloop6 {β : Type} {step : (Int → Int → Int → Int → Int → Int → zDa → Option β) → Int → Int → Int → Int → Int → Int → zDa → Option β} (I : Int → Int → Int → Int → Int → Int → zDa → Prop) (m : Int → Int → Int → Int → Int → Int → zDa → Nat) {P : β → Prop}
    (hs : ∀ (k : Int → Int → Int → Int → Int → Int → zDa → Option β) (v0 : Int) (v1 : Int) (v2 : Int) (v3 : Int) (v4 : Int) (v5 : Int) (D : zDa), I v0 v1 v2 v3 v4 v5 D → (∀ (u0 : Int) (u1 : Int) (u2 : Int) (u3 : Int) (u4 : Int) (u5 : Int) (D' : zDa), I u0 u1 u2 u3 u4 u5 D' → m u0 u1 u2 u3 u4 u5 D' < m v0 v1 v2 v3 v4 v5 D → qS (k u0 u1 u2 u3 u4 u5 D') P) → qS (step k v0 v1 v2 v3 v4 v5 D) P)
    {N : Nat} {v0 : Int} {v1 : Int} {v2 : Int} {v3 : Int} {v4 : Int} {v5 : Int} {D : zDa} (hI : I v0 v1 v2 v3 v4 v5 D) (hm : m v0 v1 v2 v3 v4 v5 D < N) : qS (zfix (fun _ _ _ _ _ _ _ => none) step N v0 v1 v2 v3 v4 v5 D) P := by
  have h := zfix_ind (bot := fun (_ : Int) (_ : Int) (_ : Int) (_ : Int) (_ : Int) (_ : Int) (_ : zDa) => (none : Option β)) (step := step) (fun n k => ∀ (v0 : Int) (v1 : Int) (v2 : Int) (v3 : Int) (v4 : Int) (v5 : Int) (D : zDa), I v0 v1 v2 v3 v4 v5 D → m v0 v1 v2 v3 v4 v5 D < n → qS (k v0 v1 v2 v3 v4 v5 D) P)
    (fun _ _ _ _ _ _ _ _ h => absurd h (Nat.not_lt_zero _))
    (fun n k ih v0 v1 v2 v3 v4 v5 D hI hm => hs k v0 v1 v2 v3 v4 v5 D hI (fun u0 u1 u2 u3 u4 u5 D' hI' hlt => ih u0 u1 u2 u3 u4 u5 D' hI' (by omega)))
  exact h N v0 v1 v2 v3 v4 v5 D hI hm
theorem zfu_gt {n : Nat} (h : n < 1000000) : n < zfu := h
theorem zwr_off {D : zDa} {a k : Nat} {v : Int} {b j : Nat} (h : b ≠ a ∨ j ≠ k) : zwr D a k v b j = D b j := by
  unfold zwr
  by_cases h1 : b = a
  · subst h1
    rw [if_pos rfl]
    rcases h with h | h
    · exact absurd rfl h
    · rw [if_neg h]
  · rw [if_neg h1]
theorem zwr_eq {D : zDa} {a k : Nat} {v : Int} : zwr D a k v a k = v := by unfold zwr; rw [if_pos rfl, if_pos rfl]
theorem zwr_at {D : zDa} {a k : Nat} {v : Int} {j : Nat} : zwr D a k v a j = if j = k then v else D a j := by unfold zwr; rw [if_pos rfl]
theorem zwr_row {D : zDa} {a k : Nat} {v : Int} {b : Nat} (h : b ≠ a) : zwr D a k v b = D b := by funext j; unfold zwr; rw [if_neg h]
theorem zrow_row {D : zDa} {a : Nat} {r : Nat → Int} {b : Nat} (h : b ≠ a) : zrow D a r b = D b := by unfold zrow; rw [if_neg h]
theorem zrow_eq {D : zDa} {a : Nat} {r : Nat → Int} : zrow D a r a = r := by unfold zrow; rw [if_pos rfl]
/-- all rows but some stay -/
def zfr (as : List Nat) (D D' : zDa) : Prop := ∀ a, a ∉ as → D' a = D a
theorem zfr.rfl' (as : List Nat) (D : zDa) : zfr as D D := fun _ _ => rfl
theorem zfr.trans {as : List Nat} {D D1 D2 : zDa} (h1 : zfr as D D1) (h2 : zfr as D1 D2) : zfr as D D2 := fun a ha => (h2 a ha).trans (h1 a ha)
theorem zfr.mono {as bs : List Nat} {D D1 : zDa} (h : zfr as D D1) (hs : ∀ a ∈ as, a ∈ bs) : zfr bs D D1 := fun a ha => h a (fun h' => ha (hs a h'))
theorem zfr.wr {as : List Nat} {D D1 : zDa} (h : zfr as D D1) {a k : Nat} {v : Int} (ha : a ∈ as) : zfr as D (zwr D1 a k v) := fun b hb => by
  have h' : b ≠ a := fun e => hb (by rw [e]; exact ha)
  rw [zwr_row h']; exact h b hb
theorem zfr.row {as : List Nat} {D D1 : zDa} (h : zfr as D D1) {a : Nat} {r : Nat → Int} (ha : a ∈ as) : zfr as D (zrow D1 a r) := fun b hb => by
  have h' : b ≠ a := fun e => hb (by rw [e]; exact ha)
  rw [zrow_row h']; exact h b hb
/-- the reference: all rows but some, and of row 91 all but some fields -/
def zfm (as ks : List Nat) (D D' : zDa) : Prop := (∀ a, a ≠ 91 → a ∉ as → D' a = D a) ∧ ∀ k, k ∉ ks → D' 91 k = D 91 k
theorem zfm.rfl' (as ks : List Nat) (D : zDa) : zfm as ks D D := ⟨fun _ _ _ => rfl, fun _ _ => rfl⟩
theorem zfm.trans {as ks : List Nat} {D D1 D2 : zDa} (h1 : zfm as ks D D1) (h2 : zfm as ks D1 D2) : zfm as ks D D2 :=
  ⟨fun a h ha => (h2.1 a h ha).trans (h1.1 a h ha), fun k hk => (h2.2 k hk).trans (h1.2 k hk)⟩
theorem zfm.mono {as ks bs js : List Nat} {D D1 : zDa} (h : zfm as ks D D1) (hs : ∀ a ∈ as, a ∈ bs) (hk : ∀ a ∈ ks, a ∈ js) : zfm bs js D D1 :=
  ⟨fun a h0 ha => h.1 a h0 (fun h' => ha (hs a h')), fun k hk' => h.2 k (fun h' => hk' (hk k h'))⟩
theorem zfm.wr {as ks : List Nat} {D D1 : zDa} (h : zfm as ks D D1) {a k : Nat} {v : Int} (h9 : a ≠ 91) (ha : a ∈ as) : zfm as ks D (zwr D1 a k v) := by
  refine ⟨fun b hb hc => ?_, fun j hj => ?_⟩
  · have h' : b ≠ a := fun e => hc (by rw [e]; exact ha)
    rw [zwr_row h']; exact h.1 b hb hc
  · rw [zwr_off (Or.inl (fun e => h9 e.symm))]; exact h.2 j hj
theorem zfm.wf {as ks : List Nat} {D D1 : zDa} (h : zfm as ks D D1) {k : Nat} {v : Int} (ha : k ∈ ks) : zfm as ks D (zwr D1 91 k v) := by
  refine ⟨fun b hb hc => ?_, fun j hj => ?_⟩
  · rw [zwr_row hb]; exact h.1 b hb hc
  · have h' : j ≠ k := fun e => hj (by rw [e]; exact ha)
    rw [zwr_off (Or.inr h')]; exact h.2 j hj
