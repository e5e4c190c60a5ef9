/-! ===== the reference answers ===== -/
/-- whether a bit is there -/
def uB (u v : Nat) : Bool := (u / 2 ^ v) % 2 == 1
def pk1 (ch : Nat → Int) (u : Nat) (v3 : Int) (v4 : Nat) : Int := if uB u v4 then v3 else if v3 = -1 then (v4 : Int) else if ch v3.toNat < ch v4 then (v4 : Int) else v3
def pk (ch : Nat → Int) (u : Nat) : Int := pk1 ch u (pk1 ch u (pk1 ch u (-1) 0) 1) 2
theorem uB_z : ∀ u : Nat, u < 8 → ∀ v : Nat, v < 3 → zand (zshr (u : Int) (v : Int)) 1 = if uB u v then 1 else 0 := by decide +kernel
theorem uO_z : ∀ u : Nat, u < 8 → ∀ v : Nat, v < 3 → zor (u : Int) (zshl 1 (v : Int)) = ((u ||| 2 ^ v : Nat) : Int) := by decide +kernel
theorem uO_lt : ∀ u : Nat, u < 8 → ∀ v : Nat, v < 3 → u ||| 2 ^ v < 8 := by decide +kernel
theorem pk_rank (ch : Nat → Int) : pk ch 0 = ((kRk ch).1 : Int) ∧ pk ch (0 ||| 2 ^ (kRk ch).1) = ((kRk ch).2.1 : Int) ∧ pk ch (0 ||| 2 ^ (kRk ch).1 ||| 2 ^ (kRk ch).2.1) = ((kRk ch).2.2 : Int) := by
  unfold kRk
  by_cases h1 : ch 0 < ch 1
  · by_cases h2 : ch 1 < ch 2
    · have h3 : ch 0 < ch 2 := by omega
      simp [pk, pk1, uB, h1, h2, h3]
    · by_cases h3 : ch 0 < ch 2
      · simp [pk, pk1, uB, h1, h2, h3]
      · simp [pk, pk1, uB, h1, h2, h3]
  · by_cases h3 : ch 0 < ch 2
    · simp [pk, pk1, uB, h1, h3]
    · by_cases h2 : ch 1 < ch 2
      · simp [pk, pk1, uB, h1, h2, h3]
      · simp [pk, pk1, uB, h1, h2, h3]
section RAN
variable {F : zFs} {D : zDa}
def rCh (D : zDa) (ch : Nat → Int) : Prop := ∀ lv, lv < 3 → D 103 lv = ch lv ∧ 0 ≤ ch lv ∧ ch lv ≤ 100
theorem rA_44 {ch : Nat → Int} (hc : rCh D ch) {o1 v3 : Int} {u v4 : Nat} (hu : u < 8) (hv : v4 < 3) (h3 : v3 = -1 ∨ (0 ≤ v3 ∧ v3 < 3)) (k35 k44 : Int → Int → zDa → Option zDa) :
    fX12_answers_44 F o1 (u : Int) k35 k44 v3 (v4 : Int) D = k44 (pk1 ch u v3 v4) ((v4 : Int) + 1) D := by
  unfold fX12_answers_44 pk1
  rw [if_pos (by omega), uB_z u hu v4 hv]
  unfold fX12_answers_80 fX12_answers_83
  cases hb : uB u v4 with
  | true =>
    rw [if_neg (by decide), if_pos (by omega)]
    rfl
  | false =>
    rw [if_pos (c := (if false = true then (1 : Int) else 0) = 0) (by decide)]
    by_cases h1 : v3 = -1
    · rw [if_pos h1, if_pos (by omega)]
      simp [h1]
    · rw [if_neg h1, if_pos (by omega), show ((v4 : Int)).toNat = v4 by omega, (hc v4 hv).1, (hc v3.toNat (by omega)).1]
      by_cases h2 : ch v3.toNat < ch v4
      · rw [if_pos h2, if_pos (by omega)]
        simp [h1, h2]
      · rw [if_neg h2, if_pos (by omega)]
        simp [h1, h2]
theorem pk1_in {ch : Nat → Int} {u v4 : Nat} {v3 : Int} (hv : v4 < 3) (h : v3 = -1 ∨ (0 ≤ v3 ∧ v3 < 3)) : pk1 ch u v3 v4 = -1 ∨ (0 ≤ pk1 ch u v3 v4 ∧ pk1 ch u v3 v4 < 3) := by
  unfold pk1
  repeat' split
  all_goals omega
theorem rA_pick {P : zDa → Prop} {ch : Nat → Int} (hc : rCh D ch) {o1 : Int} {u lv : Nat} (hu : u < 8) (hlv : lv < 3) (hp : pk ch u = (lv : Int)) {k35 : Int → Int → zDa → Option zDa}
    (hn : qS (zfix (fun _ _ _ => none) (fX12_answers_98 F ((u ||| 2 ^ lv : Nat) : Int) (lv : Int) k35) zfu o1 0 D) P) :
    qS (zfix (fun _ _ _ => none) (fX12_answers_44 F o1 (u : Int) k35) zfu (-1) 0 D) P := by
  have e0 : zfix (fun _ _ _ => none) (fX12_answers_44 F o1 (u : Int) k35) zfu (-1) 0 D = zfix (fun _ _ _ => none) (fX12_answers_44 F o1 (u : Int) k35) (999996 + 1) (pk ch u) 3 D := by
    rw [show zfu = 999996 + 1 + 1 + 1 + 1 from rfl, zfix_succ]
    have s0 := rA_44 (F := F) hc (o1 := o1) (v3 := -1) (u := u) (v4 := 0) hu (by omega) (Or.inl rfl) k35 (zfix (fun _ _ _ => none) (fX12_answers_44 F o1 (u : Int) k35) (999996 + 1 + 1 + 1))
    have q0 := pk1_in (ch := ch) (u := u) (v4 := 0) (v3 := -1) (by omega) (Or.inl rfl)
    have q1 := pk1_in (ch := ch) (u := u) (v4 := 1) (by omega) q0
    rw [show ((0 : Nat) : Int) = 0 from rfl] at s0
    rw [s0, zfix_succ]
    have s1 := rA_44 (F := F) hc (o1 := o1) (u := u) (v4 := 1) hu (by omega) q0 k35 (zfix (fun _ _ _ => none) (fX12_answers_44 F o1 (u : Int) k35) (999996 + 1 + 1))
    rw [show ((1 : Nat) : Int) = 0 + 1 from rfl] at s1
    rw [s1, zfix_succ]
    have s2 := rA_44 (F := F) hc (o1 := o1) (u := u) (v4 := 2) hu (by omega) q1 k35 (zfix (fun _ _ _ => none) (fX12_answers_44 F o1 (u : Int) k35) (999996 + 1))
    rw [show ((2 : Nat) : Int) = 0 + 1 + 1 from rfl] at s2
    rw [s2]
    rfl
  rw [e0, hp, zfix_succ]
  unfold fX12_answers_44
  refine qS_neg (by omega) (qS_leti ?_)
  rw [uO_z u hu lv hlv]
  exact hn
/-- one more answer -/
theorem rA_116 {P : zDa → Prop} {d : Nat → Int} {h o2 : Int} {L j lv : Nat} {k35 k98 : Int → Int → zDa → Option zDa} (hlv : lv < 3) (hch : D 103 lv = h) (hh : 0 ≤ h ∧ h ≤ 100) (hd : ∀ m, m < 4 → D 107 m = d m ∧ 0 ≤ d m ∧ d m ≤ 1000000) (hb : L ≤ 1000 ∧ j ≤ 1000)
    (hn : ∀ D', (∀ m, m < 4 → D' 107 m = dOne h d m) → zfr [107] D D' → qS (k98 ((L : Int) + (-1)) ((j : Int) + 1) D') P) :
    qS (zfix (fun _ _ => none) (fX12_answers_116 F (L : Int) o2 (lv : Int) (j : Int) k35 k98) zfu 3 D) P := by
  refine qloop1 (fun v D1 => ∃ j : Nat, v = (j : Int) - 1 ∧ j ≤ 4 ∧ (∀ m, m < 4 → D1 107 m = if j ≤ m then dOne h d m else d m) ∧ zfr [107] D D1) (fun v _ => (v + 1).toNat) ?_ ⟨4, rfl, by omega, fun m hm => by rw [if_neg (by omega)]; exact (hd m hm).1, zfr.rfl' _ D⟩ (zfu_gt (by omega))
  intro kk v D1 ⟨i, ev, hi, hrow, hfr⟩ ih
  subst ev
  unfold fX12_answers_116
  refine qS_ite (fun hneg => ?_) (fun hneg => ?_)
  · have : i = 0 := by omega
    subst this
    exact qS_chk (by omega) (hn D1 (fun m hm => by rw [hrow m hm, if_pos (by omega)]) hfr)
  · obtain ⟨x, rfl⟩ : ∃ x, i = x + 1 := ⟨i - 1, by omega⟩
    have e1 : ((x + 1 : Nat) : Int) - 1 = (x : Int) := by omega
    rw [e1]
    have e103 : D1 103 ((lv : Int)).toNat = h := by rw [hfr 103 (by decide), show ((lv : Int)).toNat = lv by omega]; exact hch
    have rx := hrow x (by omega)
    rw [if_neg (by omega)] at rx
    have bx := (hd x (by omega)).2
    have p1 := mulb (b := 100 - h) bx (by omega)
    rw [e103, show ((x : Int)).toNat = x by omega, rx]
    refine qS_chk (by omega) ?_
    have fin : ∀ s0 : Int, 0 ≤ s0 ∧ s0 ≤ 100000000 → dOne h d x = d x * (100 - h) + s0 → qS (fX12_answers_171 F k35 k98 kk (L : Int) o2 (lv : Int) (j : Int) (x : Int) s0 (d x * (100 - h)) (x : Int) D1) P := by
      intro s0 hs0 e
      unfold fX12_answers_171
      refine qS_chk (by omega) (qS_leti (qS_chk (by omega) (ih _ _ ⟨x, by omega, by omega, fun m hm => ?_, hfr.wr (by decide)⟩ (by omega))))
      rw [show ((x : Int)).toNat = x by omega, zwr_at]
      by_cases hm2 : m = x
      · rw [if_pos hm2, if_pos (by omega), hm2, e]
      · rw [if_neg hm2, hrow m hm]
        by_cases h3 : x + 1 ≤ m
        · rw [if_pos h3, if_pos (by omega)]
        · rw [if_neg h3, if_neg (by omega)]
    refine qS_ite (fun hpos => ?_) (fun hpos => ?_)
    · have rx1 := hrow (x - 1) (by omega)
      rw [if_neg (by omega)] at rx1
      have bx1 := (hd (x - 1) (by omega)).2
      have p2 := mulb (b := h) bx1 hh
      rw [show ((x : Int) - 1).toNat = x - 1 by omega, rx1]
      refine qS_chk (by omega) (fin _ (by omega) ?_)
      unfold dOne
      rw [if_neg (by omega)]
    · refine fin 0 (by omega) ?_
      unfold dOne
      rw [if_pos (by omega)]
/-- one rank of them -/
theorem rA_98 {P : zDa → Prop} {k35 : Int → Int → zDa → Option zDa} {o2 h : Int} {lv L cnt k : Nat} {d : Nat → Int} (hlv : lv < 3) (hd : dOk k d) (hk : k + L ≤ 3) (hrow : ∀ m, m < 4 → D 107 m = d m) (hch : D 103 lv = h) (hh : 0 ≤ h ∧ h ≤ 100) (hcnt : cnt ≤ 1000) (h106 : D 106 lv = (cnt : Int))
    (hn : ∀ D', (∀ m, m < 4 → D' 107 m = dPw h (min cnt L) d m) → zfr [107] D D' → qS (k35 ((L - min cnt L : Nat) : Int) o2 D') P) :
    qS (zfix (fun _ _ _ => none) (fX12_answers_98 F o2 (lv : Int) k35) zfu (L : Int) 0 D) P := by
  refine qloop2 (fun v5 v9 D1 => ∃ j : Nat, j ≤ min cnt L ∧ v9 = (j : Int) ∧ v5 = ((L - j : Nat) : Int) ∧ zfr [107] D D1 ∧ ∃ d1, (∀ m, m < 4 → D1 107 m = d1 m) ∧ dOk (k + j) d1 ∧ dPw h (min cnt L - j) d1 = dPw h (min cnt L) d) (fun _ v9 _ => (2000 - v9).toNat) ?_ ⟨0, by omega, rfl, rfl, zfr.rfl' _ D, d, hrow, hd, rfl⟩ (zfu_gt (by omega))
  intro kk v5 v9 D1 ⟨j, hj, e9, e5, hfr, d1, hr1, hd1, hpw⟩ ih
  subst e9 e5
  have stop : j = min cnt L → qS (fX12_answers_188 F k35 ((L - j : Nat) : Int) o2 D1) P := by
    intro e
    unfold fX12_answers_188
    rw [e]
    refine hn D1 (fun m hm => ?_) hfr
    rw [hr1 m hm, ← hpw, e, Nat.sub_self]
    rfl
  unfold fX12_answers_98
  have e106 : D1 106 ((lv : Int)).toNat = (cnt : Int) := by rw [hfr 106 (by decide), show ((lv : Int)).toNat = lv by omega]; exact h106
  rw [e106]
  refine qS_chk (by omega) (qS_ite (fun h1 => qS_ite (fun h2 => ?_) (fun h2 => stop (by omega))) (fun h1 => stop (by omega)))
  refine rA_116 (h := h) hlv (by rw [hfr 103 (by decide)]; exact hch) hh (fun m hm => ⟨hr1 m hm, dOk_le hd1 (by omega) m hm⟩) (by omega) (fun D2 hr2 hf2 => ?_)
  refine ih _ _ _ ⟨j + 1, by omega, by omega, by omega, hfr.trans hf2, dOne h d1, hr2, ?_, ?_⟩ (by omega)
  · have := dOk_one hd1 hh
    rw [show k + j + 1 = k + (j + 1) by omega] at this
    exact this
  · rw [← hpw, show min cnt L - j = (min cnt L - (j + 1)) + 1 by omega]
    rfl
end RAN
