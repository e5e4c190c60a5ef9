/-! ===== what a row of steps does: it pushes a number, or the whole doesn't hold ===== -/
section KR
variable {S A st : Nat → Int} {T m a top : Nat}
theorem kR_push (h : a < T) {v : Int} (hS : S a = 16 * v) (hv : 0 ≤ v ∧ v ≤ 1000) (ht : top < 52) : kRun S A T (m + 1) a top st = kRun S A T m (a + 1) (top + 1) (zset st top v) := by
  rw [kRun.eq_def]
  dsimp only
  rw [hS, if_neg (by omega), if_neg (by omega), if_pos (by omega), if_pos ht, show 16 * v / 16 = v by omega]
theorem kR_ask (h : a < T) {v : Int} (hS : S a = 16 * v + 1) (hv : 0 ≤ v ∧ v < 7) (ht : top < 52) : kRun S A T (m + 1) a top st = kRun S A T m (a + 1) (top + 1) (zset st top (A v.toNat)) := by
  rw [kRun.eq_def]
  dsimp only
  rw [hS, if_neg (by omega), if_neg (by omega), if_neg (by omega), if_pos (by omega), show (16 * v + 1) / 16 = v by omega, if_pos ⟨ht, by omega⟩]
theorem kR_and (h : a < T) {v : Int} (hS : S a = 16 * v + 10) (hv : 0 ≤ v ∧ v ≤ 1000) (ht : 0 < top ∧ top ≤ 52) : kRun S A T (m + 1) a top st = if st (top - 1) = 0 then kRun S A T m v.toNat top st else kRun S A T m (a + 1) (top - 1) st := by
  rw [kRun.eq_def]
  dsimp only
  rw [hS, if_neg (by omega), if_neg (by omega), if_neg (by omega), if_neg (by omega), if_pos (by omega), if_pos ht, show (16 * v + 10) / 16 = v by omega]
theorem kR_or (h : a < T) {v : Int} (hS : S a = 16 * v + 11) (hv : 0 ≤ v ∧ v ≤ 1000) (ht : 0 < top ∧ top ≤ 52) : kRun S A T (m + 1) a top st = if st (top - 1) = 1 then kRun S A T m v.toNat top st else kRun S A T m (a + 1) (top - 1) st := by
  rw [kRun.eq_def]
  dsimp only
  rw [hS, if_neg (by omega), if_neg (by omega), if_neg (by omega), if_neg (by omega), if_neg (by omega), if_pos (by omega), if_pos ht, show (16 * v + 11) / 16 = v by omega]
theorem kR_not (h : a < T) (hS : S a = 9) (ht : 0 < top ∧ top ≤ 52) (hb : 0 ≤ st (top - 1) ∧ st (top - 1) ≤ 1) : kRun S A T (m + 1) a top st = kRun S A T m (a + 1) top (zset st (top - 1) (1 - st (top - 1))) := by
  rw [kRun.eq_def]
  dsimp only
  rw [hS, if_neg (by omega), if_neg (by omega), if_neg (by omega), if_neg (by omega), if_neg (by omega), if_neg (by omega), if_pos (by omega), if_pos ⟨ht.1, ht.2, hb⟩]
theorem kR_bin (h : a < T) {op : Int} (hS : S a = op) (ho : 2 ≤ op ∧ op ≤ 8) (ht : 1 < top ∧ top ≤ 52) (b1 : -1000000000 ≤ st (top - 1) ∧ st (top - 1) ≤ 1000000000) (b2 : -1000000000 ≤ st (top - 2) ∧ st (top - 2) ≤ 1000000000) :
    kRun S A T (m + 1) a top st = match kBin2 op (st (top - 2)) (st (top - 1)) with | none => some (false, 0) | some z => kRun S A T m (a + 1) (top - 1) (zset st (top - 2) z) := by
  rw [kRun.eq_def]
  dsimp only
  rw [hS, if_neg (by omega), if_neg (by omega), if_neg (by omega), if_neg (by omega), if_neg (by omega), if_neg (by omega), if_neg (by omega), if_pos ⟨ht.1, ht.2, b1, b2⟩, show op % 16 = op by omega]
  cases kBin2 op (st (top - 2)) (st (top - 1)) <;> rfl
theorem kR_end : kRun S A T (m + 1) T top st = some (decide (top = 2 ∧ st 1 = 1), st 0) := by
  rw [kRun.eq_def]
  dsimp only
  rw [if_pos rfl]
end KR
def cRel (S : Nat → Int) (s t nl : Nat) (A : Nat → Int) (r : Option Int) : Prop :=
  ∀ S' : Nat → Int, (∀ k, s ≤ k → k < t → S' k = S k) → ∀ T, t ≤ T → ∀ (top : Nat) (st : Nat → Int), top + nl ≤ 52 →
    match r with
    | some v => ∃ m st', m ≤ t - s ∧ (∀ k, k < top → st' k = st k) ∧ st' top = v ∧ ∀ m', kRun S' A T (m + m') s top st = kRun S' A T m' t (top + 1) st'
    | none => ∃ m v, m ≤ t - s ∧ ∀ m', kRun S' A T (m + m') s top st = some (false, v)
section CR
variable {S S2 A : Nat → Int} {s t t1 t2 n1 n2 : Nat} {r r1 r2 : Option Int}
theorem cRel.eq (h : cRel S s t n1 A r) (he : ∀ k, s ≤ k → k < t → S2 k = S k) : cRel S2 s t n1 A r :=
  fun S' hS => h S' (fun k h1 h2 => (hS k h1 h2).trans (he k h1 h2))
theorem cRel.le (h : cRel S s t n1 A r) (hn : n1 ≤ n2) : cRel S s t n2 A r :=
  fun S' hS T hT top st ht => h S' hS T hT top st (by omega)
theorem cRel_push {v : Int} (hS : S s = 16 * v) (hv : 0 ≤ v ∧ v ≤ 1000) : cRel S s (s + 1) 1 A (some v) := by
  intro S' hS' T hT top st ht
  refine ⟨1, zset st top v, by omega, fun k hk => zset_off (by omega), zset_eq, fun m' => ?_⟩
  rw [Nat.add_comm 1 m']
  exact kR_push (by omega) (by rw [hS' s (by omega) (by omega)]; exact hS) hv (by omega)
theorem cRel_ask {v : Int} (hS : S s = 16 * v + 1) (hv : 0 ≤ v ∧ v < 7) : cRel S s (s + 1) 1 A (some (A v.toNat)) := by
  intro S' hS' T hT top st ht
  refine ⟨1, zset st top (A v.toNat), by omega, fun k hk => zset_off (by omega), zset_eq, fun m' => ?_⟩
  rw [Nat.add_comm 1 m']
  exact kR_ask (by omega) (by rw [hS' s (by omega) (by omega)]; exact hS) hv (by omega)
theorem cRel_bin (h1 : cRel S s t1 n1 A r1) (h2 : cRel S t1 t2 n2 A r2) (e1 : s ≤ t1) (e2 : t1 ≤ t2) (hn : 1 ≤ n1) (hn2 : 1 ≤ n2) {op : Int} (hS : S t2 = op) (ho : 2 ≤ op ∧ op ≤ 8)
    (b1 : ∀ v, r1 = some v → -1000000000 ≤ v ∧ v ≤ 1000000000) (b2 : ∀ v, r2 = some v → -1000000000 ≤ v ∧ v ≤ 1000000000) : cRel S s (t2 + 1) (n1 + n2) A (r1.bind (fun x => r2.bind (fun y => kBin2 op x y))) := by
  intro S' hS' T hT top st ht
  have q1 := h1 S' (fun k k1 k2 => hS' k (by omega) (by omega)) T (by omega) top st (by omega)
  cases r1 with
  | none =>
    obtain ⟨m, v, hm, e⟩ := q1
    exact ⟨m, v, by omega, e⟩
  | some x =>
    obtain ⟨m1, st1, hm1, k1, x1, e3⟩ := q1
    have q2 := h2 S' (fun k k1 k2 => hS' k (by omega) (by omega)) T (by omega) (top + 1) st1 (by omega)
    cases r2 with
    | none =>
      obtain ⟨m, v, hm, e⟩ := q2
      exact ⟨m1 + m, v, by omega, fun m' => by rw [Nat.add_assoc, e3, e]⟩
    | some y =>
      obtain ⟨m2, st2, hm2, k2, x2, e4⟩ := q2
      have y1 : st2 top = x := by rw [k2 top (by omega)]; exact x1
      have bx := b1 x rfl
      have bY := b2 y rfl
      have stp : ∀ m', kRun S' A T (m' + 1) t2 (top + 1 + 1) st2 = match kBin2 op x y with | none => some (false, 0) | some z => kRun S' A T m' (t2 + 1) (top + 1) (zset st2 top z) := by
        intro m'
        have := kR_bin (S := S') (A := A) (T := T) (m := m') (a := t2) (top := top + 1 + 1) (st := st2) (by omega) (by rw [hS' t2 (by omega) (by omega)]; exact hS) ho (by omega)
          (by rw [show top + 1 + 1 - 1 = top + 1 by omega, x2]; exact bY) (by rw [show top + 1 + 1 - 2 = top by omega, y1]; exact bx)
        rw [show top + 1 + 1 - 2 = top by omega, show top + 1 + 1 - 1 = top + 1 by omega, y1, x2] at this
        exact this
      simp only [Option.bind_some]
      cases hz : kBin2 op x y with
      | none =>
        refine ⟨m1 + (m2 + 1), 0, by omega, fun m' => ?_⟩
        rw [show m1 + (m2 + 1) + m' = m1 + (m2 + (m' + 1)) by omega, e3, e4, stp, hz]
      | some z =>
        refine ⟨m1 + (m2 + 1), zset st2 top z, by omega, fun k hk => ?_, zset_eq, fun m' => ?_⟩
        · rw [zset_off (by omega), k2 k (by omega), k1 k hk]
        · rw [show m1 + (m2 + 1) + m' = m1 + (m2 + (m' + 1)) by omega, e3, e4, stp, hz]
theorem cRel_and (h1 : cRel S s t1 n1 A r1) (h2 : cRel S (t1 + 1) t2 n2 A r2) (e1 : s ≤ t1) (e2 : t1 + 1 ≤ t2) (h9 : t2 ≤ 1000) (hn : 1 ≤ n1) (hS : S t1 = 16 * (t2 : Int) + 10) :
    cRel S s t2 (n1 + n2) A (r1.bind (fun x => if x = 0 then some 0 else r2)) := by
  intro S' hS' T hT top st ht
  have q1 := h1 S' (fun k k1 k2 => hS' k (by omega) (by omega)) T (by omega) top st (by omega)
  cases r1 with
  | none =>
    obtain ⟨m, v, hm, e⟩ := q1
    exact ⟨m, v, by omega, e⟩
  | some x =>
    obtain ⟨m1, st1, hm1, k1, x1, e3⟩ := q1
    have stp : ∀ m', kRun S' A T (m' + 1) t1 (top + 1) st1 = if x = 0 then kRun S' A T m' t2 (top + 1) st1 else kRun S' A T m' (t1 + 1) top st1 := by
      intro m'
      have := kR_and (S := S') (A := A) (T := T) (m := m') (a := t1) (top := top + 1) (st := st1) (by omega) (by rw [hS' t1 (by omega) (by omega)]; exact hS) (by omega) (by omega)
      rw [show top + 1 - 1 = top by omega, x1, show ((t2 : Int)).toNat = t2 by omega] at this
      exact this
    simp only [Option.bind_some]
    by_cases hx : x = 0
    · rw [if_pos hx]
      refine ⟨m1 + 1, st1, by omega, k1, by rw [x1, hx], fun m' => ?_⟩
      rw [show m1 + 1 + m' = m1 + (m' + 1) by omega, e3, stp, if_pos hx]
    · rw [if_neg hx]
      have q2 := h2 S' (fun k k1 k2 => hS' k (by omega) (by omega)) T (by omega) top st1 (by omega)
      cases r2 with
      | none =>
        obtain ⟨m, v, hm, e⟩ := q2
        refine ⟨m1 + (1 + m), v, by omega, fun m' => ?_⟩
        rw [show m1 + (1 + m) + m' = m1 + (m + m' + 1) by omega, e3, stp, if_neg hx, e]
      | some y =>
        obtain ⟨m2, st2, hm2, k2, x2, e4⟩ := q2
        refine ⟨m1 + (1 + m2), st2, by omega, fun k hk => by rw [k2 k hk, k1 k hk], x2, fun m' => ?_⟩
        rw [show m1 + (1 + m2) + m' = m1 + (m2 + m' + 1) by omega, e3, stp, if_neg hx, e4]
theorem cRel_or (h1 : cRel S s t1 n1 A r1) (h2 : cRel S (t1 + 1) t2 n2 A r2) (e1 : s ≤ t1) (e2 : t1 + 1 ≤ t2) (h9 : t2 ≤ 1000) (hn : 1 ≤ n1) (hS : S t1 = 16 * (t2 : Int) + 11) :
    cRel S s t2 (n1 + n2) A (r1.bind (fun x => if x = 1 then some 1 else r2)) := by
  intro S' hS' T hT top st ht
  have q1 := h1 S' (fun k k1 k2 => hS' k (by omega) (by omega)) T (by omega) top st (by omega)
  cases r1 with
  | none =>
    obtain ⟨m, v, hm, e⟩ := q1
    exact ⟨m, v, by omega, e⟩
  | some x =>
    obtain ⟨m1, st1, hm1, k1, x1, e3⟩ := q1
    have stp : ∀ m', kRun S' A T (m' + 1) t1 (top + 1) st1 = if x = 1 then kRun S' A T m' t2 (top + 1) st1 else kRun S' A T m' (t1 + 1) top st1 := by
      intro m'
      have := kR_or (S := S') (A := A) (T := T) (m := m') (a := t1) (top := top + 1) (st := st1) (by omega) (by rw [hS' t1 (by omega) (by omega)]; exact hS) (by omega) (by omega)
      rw [show top + 1 - 1 = top by omega, x1, show ((t2 : Int)).toNat = t2 by omega] at this
      exact this
    simp only [Option.bind_some]
    by_cases hx : x = 1
    · rw [if_pos hx]
      refine ⟨m1 + 1, st1, by omega, k1, by rw [x1, hx], fun m' => ?_⟩
      rw [show m1 + 1 + m' = m1 + (m' + 1) by omega, e3, stp, if_pos hx]
    · rw [if_neg hx]
      have q2 := h2 S' (fun k k1 k2 => hS' k (by omega) (by omega)) T (by omega) top st1 (by omega)
      cases r2 with
      | none =>
        obtain ⟨m, v, hm, e⟩ := q2
        refine ⟨m1 + (1 + m), v, by omega, fun m' => ?_⟩
        rw [show m1 + (1 + m) + m' = m1 + (m + m' + 1) by omega, e3, stp, if_neg hx, e]
      | some y =>
        obtain ⟨m2, st2, hm2, k2, x2, e4⟩ := q2
        refine ⟨m1 + (1 + m2), st2, by omega, fun k hk => by rw [k2 k hk, k1 k hk], x2, fun m' => ?_⟩
        rw [show m1 + (1 + m2) + m' = m1 + (m2 + m' + 1) by omega, e3, stp, if_neg hx, e4]
theorem cRel_not (h1 : cRel S s t n1 A r) (e1 : s ≤ t) (hn : 1 ≤ n1) (hS : S t = 9) (hb : ∀ v, r = some v → 0 ≤ v ∧ v ≤ 1) : cRel S s (t + 1) n1 A (r.map (fun x => 1 - x)) := by
  intro S' hS' T hT top st ht
  have q1 := h1 S' (fun k k1 k2 => hS' k (by omega) (by omega)) T (by omega) top st (by omega)
  cases r with
  | none =>
    obtain ⟨m, v, hm, e⟩ := q1
    exact ⟨m, v, by omega, e⟩
  | some x =>
    obtain ⟨m1, st1, hm1, k1, x1, e3⟩ := q1
    have bx := hb x rfl
    refine ⟨m1 + 1, zset st1 top (1 - x), by omega, fun k hk => by rw [zset_off (by omega), k1 k hk], zset_eq, fun m' => ?_⟩
    have := kR_not (S := S') (A := A) (T := T) (m := m') (a := t) (top := top + 1) (st := st1) (by omega) (by rw [hS' t (by omega) (by omega)]; exact hS) (by omega) (by rw [show top + 1 - 1 = top by omega, x1]; exact bx)
    rw [show top + 1 - 1 = top by omega, x1] at this
    rw [show m1 + 1 + m' = m1 + (m' + 1) by omega, e3, this]
end CR
def aIn (A : Nat → Int) : Prop := ∀ k, -1000000000 ≤ A k ∧ A k ≤ 1000000000
def cSum (S : Nat → Int) (s t nl : Nat) (f : kSum) : Prop := s < t ∧ 1 ≤ nl ∧ ∀ A, aIn A → (∀ v, f A = some v → -1000000000 ≤ v ∧ v ≤ 1000000000) ∧ cRel S s t nl A (f A)
def b01 (b : Bool) : Int := if b then 1 else 0
def cTst (S : Nat → Int) (s t nl : Nat) (f : kTst) : Prop := s < t ∧ 1 ≤ nl ∧ ∀ A, aIn A → cRel S s t nl A ((f A).map b01)
section CS
variable {S S2 : Nat → Int} {s t t1 t2 n1 n2 : Nat}
theorem cSum.eq {f : kSum} (h : cSum S s t n1 f) (he : ∀ k, s ≤ k → k < t → S2 k = S k) : cSum S2 s t n1 f := ⟨h.1, h.2.1, fun A hA => ⟨(h.2.2 A hA).1, (h.2.2 A hA).2.eq he⟩⟩
theorem cTst.eq {f : kTst} (h : cTst S s t n1 f) (he : ∀ k, s ≤ k → k < t → S2 k = S k) : cTst S2 s t n1 f := ⟨h.1, h.2.1, fun A hA => (h.2.2 A hA).eq he⟩
theorem kOp_in {o x y v : Int} (h : kOp o x y = some v) : -1000000000 ≤ v ∧ v ≤ 1000000000 := by
  unfold kOp at h
  split at h
  · exact kBnd_in h
  · split at h
    · exact kBnd_in h
    · split at h
      · exact kBnd_in h
      · split at h
        · cases h
        · exact kBnd_in h
/-- the step of a sign -/
def kOpc (o : Int) : Int := if o = 143 then 2 else if o = 145 then 3 else if o = 142 then 4 else 5
theorem kOpc_in (o : Int) : 2 ≤ kOpc o ∧ kOpc o ≤ 8 := by
  unfold kOpc
  repeat' split
  all_goals omega
theorem kOpc_eq (o x y : Int) : kBin2 (kOpc o) x y = kOp o x y := by
  unfold kOpc kOp
  by_cases h1 : o = 143
  · rw [if_pos h1, if_pos h1]; rfl
  · rw [if_neg h1, if_neg h1]
    by_cases h2 : o = 145
    · rw [if_pos h2, if_pos h2]; rfl
    · rw [if_neg h2, if_neg h2]
      by_cases h3 : o = 142
      · rw [if_pos h3, if_pos h3]; rfl
      · rw [if_neg h3, if_neg h3]; rfl
theorem cSum_bin {f g : kSum} (h1 : cSum S s t1 n1 f) (h2 : cSum S t1 t2 n2 g) {o : Int} (hS : S t2 = kOpc o) : cSum S s (t2 + 1) (n1 + n2) (kBin o f g) := by
  have a1 := h1.1
  have a2 := h2.1
  refine ⟨by omega, by have := h1.2.1; omega, fun A hA => ⟨fun v hv => ?_, ?_⟩⟩
  · unfold kBin at hv
    cases hf : f A with
    | none => rw [hf] at hv; cases hv
    | some x =>
      cases hg : g A with
      | none => rw [hf, hg] at hv; cases hv
      | some y => rw [hf, hg] at hv; exact kOp_in hv
  · have := cRel_bin (h1.2.2 A hA).2 (h2.2.2 A hA).2 (by omega) (by omega) h1.2.1 h2.2.1 hS (kOpc_in o) (h1.2.2 A hA).1 (h2.2.2 A hA).1
    simp only [kOpc_eq] at this
    exact this
def kCpc (o : Int) : Int := if o = 160 then 6 else if o = 162 then 7 else 8
theorem kCpc_in (o : Int) : 2 ≤ kCpc o ∧ kCpc o ≤ 8 := by
  unfold kCpc
  repeat' split
  all_goals omega
theorem cTst_cmp {f g : kSum} (h1 : cSum S s t1 n1 f) (h2 : cSum S t1 t2 n2 g) {o : Int} (hS : S t2 = kCpc o) : cTst S s (t2 + 1) (n1 + n2) (kCmp o f g) := by
  have a1 := h1.1
  have a2 := h2.1
  refine ⟨by omega, by have := h1.2.1; omega, fun A hA => ?_⟩
  have := cRel_bin (h1.2.2 A hA).2 (h2.2.2 A hA).2 (by omega) (by omega) h1.2.1 h2.2.1 hS (kCpc_in o) (h1.2.2 A hA).1 (h2.2.2 A hA).1
  have e : (kCmp o f g A).map b01 = (f A).bind (fun x => (g A).bind (fun y => kBin2 (kCpc o) x y)) := by
    unfold kCmp
    cases f A with
    | none => rfl
    | some x =>
      cases g A with
      | none => rfl
      | some y =>
        simp only [Option.bind_some, Option.map_some]
        unfold kCpc b01
        by_cases h1 : o = 160
        · rw [if_pos h1, if_pos h1]
          show _ = some (if x < y then (1 : Int) else 0)
          by_cases h : x < y <;> simp [h]
        · rw [if_neg h1, if_neg h1]
          by_cases h2 : o = 162
          · rw [if_pos h2, if_pos h2]
            show _ = some (if y < x then (1 : Int) else 0)
            by_cases h : y < x <;> simp [h]
          · rw [if_neg h2, if_neg h2]
            show _ = some (if x = y then (1 : Int) else 0)
            by_cases h : x = y <;> simp [h]
  rw [e]; exact this
theorem cTst_and {f g : kTst} (h1 : cTst S s t1 n1 f) (h2 : cTst S (t1 + 1) t2 n2 g) (h9 : t2 ≤ 1000) (hS : S t1 = 16 * (t2 : Int) + 10) : cTst S s t2 (n1 + n2) (kAnd f g) := by
  have a1 := h1.1
  have a2 := h2.1
  refine ⟨by omega, by have := h1.2.1; omega, fun A hA => ?_⟩
  have := cRel_and (h1.2.2 A hA) (h2.2.2 A hA) (by omega) (by omega) h9 h1.2.1 hS
  have e : (kAnd f g A).map b01 = ((f A).map b01).bind (fun x => if x = 0 then some 0 else (g A).map b01) := by
    unfold kAnd
    cases f A with
    | none => rfl
    | some x => cases x <;> rfl
  rw [e]; exact this
theorem cTst_or {f g : kTst} (h1 : cTst S s t1 n1 f) (h2 : cTst S (t1 + 1) t2 n2 g) (h9 : t2 ≤ 1000) (hS : S t1 = 16 * (t2 : Int) + 11) : cTst S s t2 (n1 + n2) (kOr f g) := by
  have a1 := h1.1
  have a2 := h2.1
  refine ⟨by omega, by have := h1.2.1; omega, fun A hA => ?_⟩
  have := cRel_or (h1.2.2 A hA) (h2.2.2 A hA) (by omega) (by omega) h9 h1.2.1 hS
  have e : (kOr f g A).map b01 = ((f A).map b01).bind (fun x => if x = 1 then some 1 else (g A).map b01) := by
    unfold kOr
    cases f A with
    | none => rfl
    | some x => cases x <;> rfl
  rw [e]; exact this
theorem cTst_not0 {f : kTst} {k : Nat} (h1 : cTst S s t n1 f) (hk : ¬ k % 2 = 1) : cTst S s t n1 (kNot k f) := by
  have e : kNot k f = f := by
    funext A
    unfold kNot
    simp only [if_neg hk]
    cases f A <;> rfl
  rw [e]; exact h1
theorem cTst_not1 {f : kTst} {k : Nat} (h1 : cTst S s t n1 f) (hk : k % 2 = 1) (hS : S t = 9) : cTst S s (t + 1) n1 (kNot k f) := by
  have a1 := h1.1
  refine ⟨by omega, h1.2.1, fun A hA => ?_⟩
  have := cRel_not (h1.2.2 A hA) (by omega) h1.2.1 hS (fun v hv => by
    cases hf : f A with
    | none => rw [hf] at hv; cases hv
    | some x => rw [hf] at hv; cases hv; cases x <;> decide)
  have e : (kNot k f A).map b01 = ((f A).map b01).map (fun x => 1 - x) := by
    unfold kNot
    simp only [if_pos hk]
    cases f A with
    | none => rfl
    | some x => cases x <;> rfl
  rw [e]; exact this
theorem kImp_of {f : kSum} {g : kTst} (h1 : cSum S s t1 n1 f) (h2 : cTst S t1 t n2 g) (hn : n1 ≤ 50 ∧ n2 ≤ 50) (ht : t - s ≤ 411) : kImp S s t (fun A => (f A).bind (fun x => (g A).bind (fun b => if b then some x else none))) := by
  intro A hA st
  have a1 := h1.1
  have a2 := h2.1
  have q1 := (h1.2.2 A hA).2 S (fun _ _ _ => rfl) t (by omega) 0 st (by omega)
  cases hf : f A with
  | none =>
    rw [hf] at q1
    obtain ⟨m, v, hm, e⟩ := q1
    refine ⟨m, false, v, by omega, e 0, ?_⟩
    simp [hf]
  | some x =>
    rw [hf] at q1
    obtain ⟨m1, st1, hm1, k1, x1, e3⟩ := q1
    have q2 := (h2.2.2 A hA) S (fun _ _ _ => rfl) t (by omega) 1 st1 (by omega)
    cases hg : g A with
    | none =>
      rw [hg] at q2
      obtain ⟨m, v, hm, e⟩ := q2
      refine ⟨m1 + m, false, v, by omega, ?_, ?_⟩
      · have := e3 m
        rw [this]; exact e 0
      · simp [hf, hg]
    | some y =>
      rw [hg] at q2
      obtain ⟨m2, st2, hm2, k2, x2, e4⟩ := q2
      have y1 : st2 0 = x := by rw [k2 0 (by omega)]; exact x1
      refine ⟨m1 + (m2 + 1), y, x, by omega, ?_, ?_⟩
      · rw [e3, e4, kR_end, y1, x2]
        cases y <;> rfl
      · simp only [hf, hg, Option.bind_some]
theorem kImp_one {f : kSum} (h1 : cSum S s t n1 f) (hS : S t = 16) (hn : n1 ≤ 50) (ht : t - s ≤ 410) : kImp S s (t + 1) f := by
  have h2 : cTst S t (t + 1) 1 (fun _ => some true) := ⟨by omega, by omega, fun A hA => cRel_push (v := 1) (by omega) (by omega)⟩
  have := kImp_of h1 h2 ⟨hn, by omega⟩ (by omega)
  have e : (fun A => (f A).bind (fun x => ((fun _ => some true : kTst) A).bind (fun b => if b then some x else none))) = f := by
    funext A
    cases f A <;> rfl
  rw [e] at this; exact this
end CS
