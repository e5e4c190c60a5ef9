/-! ===== the two sides' ground: the abstract state is (K, im, tp, tl, ms) ===== -/
def cA (F : zFs) (D : zDa) (Z : Nat → Prop) (K : Nat → Int) (im : Nat → Option (Nat → Int)) (tp : Nat → Int) (tl : Int) (ms : Nat → Int) (c : Nat) : Prop :=
  qSt F D Z 1 K ∧
  (∀ k : Nat, k < 2 → D 13 k = 14 + 12 * (k : Int) ∧ ((D 38 k = 0 ∧ im k = none) ∨ (D 38 k = 1 ∧ ∃ Kk, im k = some Kk ∧ qSt F D Z (14 + 12 * k) Kk))) ∧
  ((D 0 4 = tl ∧ 0 ≤ tl ∧ tl ≤ 400) ∧ ∀ i : Nat, (i : Int) < tl → D 39 i = tp i ∧ 0 ≤ tp i ∧ tp i ≤ 255) ∧
  (D 0 9 = ms 0 ∧ D 0 5 = ms 7 ∧ D 0 6 = ms 8 ∧ D 40 0 = ms 9 ∧ D 40 1 = ms 10 ∧ D 40 2 = ms 11 ∧ ∀ k : Nat, 1 ≤ k → k ≤ 6 → D 41 k = ms k ∧ 0 ≤ ms k ∧ ms k ≤ c) ∧
  (∀ s ∈ ([1, 14, 26] : List Nat), (0 ≤ D s 16 ∧ D s 16 ≤ c) ∧ (0 ≤ D s 17 ∧ D s 17 ≤ c)) ∧ c ≤ 1000 ∧ zG F ∧ ∀ a, Z a → 126 ≤ a
def sgn8 (b : Int) : Int := if b < 128 then b else b - 256
def rA (D : zDa) (K : Nat → Int) (im : Nat → Option (Nat → Int)) (tp : Nat → Int) (tl : Int) (ms : Nat → Int) (c : Nat) : Prop :=
  (D 93 = K ∧ kOk K ∧ ∀ i, 5201 ≤ i → K i = 0) ∧
  (∀ k : Nat, k < 2 → (D 95 k = 0 ∧ im k = none) ∨ (D 95 k = 1 ∧ ∃ Kk, im k = some Kk ∧ kOk Kk ∧ (∀ i, 5201 ≤ i → Kk i = 0) ∧ ∀ i : Nat, i < 5201 → D 94 (5201 * k + i) = Kk i)) ∧
  ((D 91 9 = tl ∧ 0 ≤ tl ∧ tl ≤ 400) ∧ ∀ i : Nat, (i : Int) < tl → D 97 i = sgn8 (tp i) ∧ 0 ≤ tp i ∧ tp i ≤ 255) ∧
  (D 91 0 = ms 0 ∧ D 91 10 = ms 7 ∧ D 91 59 = ms 8 ∧ D 91 64 = ms 9 ∧ (ms 9 = -1 → ms 10 = -1 ∧ ms 11 = -1) ∧ (ms 9 ≠ -1 → D 91 65 = ms 10 ∧ D 91 66 = ms 11) ∧ ∀ k : Nat, 1 ≤ k → k ≤ 6 → D 92 k = ms k ∧ 0 ≤ ms k ∧ ms k ≤ c) ∧
  (0 ≤ D 91 1 ∧ D 91 1 ≤ c) ∧ c ≤ 1000
/-- what prices hang on is the same -/
def eP (K K' : Nat → Int) : Prop := K' 390 = K 390 ∧ (∀ i, i < 100 → i % 5 ≠ 2 → K' i = K i) ∧ ∀ (head low high wo : Int) (A : Nat → Int), kTold K' head low high wo A = kTold K head low high wo A
/-- and what terms and lessons say -/
def eV (K K' : Nat → Int) : Prop := eP K K' ∧ (∀ i, 100 ≤ i → i < 107 → K' i = K i) ∧ K' 391 = K 391 ∧ ∀ i, 107 ≤ i → i < 347 → K' i = K i
theorem eP.rfl' (K : Nat → Int) : eP K K := ⟨rfl, fun _ _ _ => rfl, fun _ _ _ _ _ => rfl⟩
theorem eV.rfl' (K : Nat → Int) : eV K K := ⟨eP.rfl' K, fun _ _ _ => rfl, rfl, fun _ _ _ => rfl⟩
/-- the class's versions tell of changes -/
def vI (D D' : zDa) (K K' : Nat → Int) : Prop :=
  ((D' 1 16 = D 1 16 ∧ eP K K') ∨ D 1 16 < D' 1 16) ∧ ((D' 1 17 = D 1 17 ∧ eV K K') ∨ D 1 17 < D' 1 17)
/-- status and refusals behind a call -/
def msu (ms : Nat → Int) (e : Int) : Nat → Int := fun k => if k = 0 then e else if (k : Int) = -e then ms k + 1 else ms k
def fC (D D' : zDa) : Prop := ∀ a, 42 ≤ a → D' a = D a
def fR (D D' : zDa) : Prop := zfm [92, 93, 94, 95, 97, 98] [0, 1, 9, 59, 64, 65, 66] D D'
section CA
variable {F : zFs} {D D' : zDa} {Z : Nat → Prop} {K K' : Nat → Int} {im : Nat → Option (Nat → Int)} {tp : Nat → Int} {tl : Int} {ms : Nat → Int} {c : Nat}
theorem qSt.rows {s : Nat} (h : qSt F D Z s K) (hZ : ∀ a, Z a → 126 ≤ a) (hD : ∀ a, 126 ≤ a → D' a = D a) (hS : ∀ a, s ≤ a → a ≤ s + 11 → D' a = D a) : qSt F D' Z s K :=
  h.fr (fun _ _ => rfl) (fun a ha => hD a (hZ a ha)) (fun _ h => h) hS
/-- the images' rows stay -/
theorem cA.images (h : ∀ k : Nat, k < 2 → D 13 k = 14 + 12 * (k : Int) ∧ ((D 38 k = 0 ∧ im k = none) ∨ (D 38 k = 1 ∧ ∃ Kk, im k = some Kk ∧ qSt F D Z (14 + 12 * k) Kk))) (hZ : ∀ a, Z a → 126 ≤ a) (hD : ∀ a, 126 ≤ a → D' a = D a) (hS : ∀ a, 13 ≤ a → a ≤ 38 → D' a = D a) :
    ∀ k : Nat, k < 2 → D' 13 k = 14 + 12 * (k : Int) ∧ ((D' 38 k = 0 ∧ im k = none) ∨ (D' 38 k = 1 ∧ ∃ Kk, im k = some Kk ∧ qSt F D' Z (14 + 12 * k) Kk)) := by
  intro k hk
  obtain ⟨h1, h2⟩ := h k hk
  rw [hS 13 (by omega) (by omega), hS 38 (by omega) (by omega)]
  refine ⟨h1, ?_⟩
  rcases h2 with h2 | ⟨h2, Kk, e, h3⟩
  · exact Or.inl h2
  · exact Or.inr ⟨h2, Kk, e, h3.rows hZ hD (fun a ha hb => hS a (by omega) (by omega))⟩
/-- a refused call -/
theorem pX11_refuse (h : cA F D Z K im tp tl ms c) (e : Int) (he : e = -1 ∨ e = -2 ∨ e = -5 ∨ e = -6) (hc : c < 1000) :
    ∃ D', fX11_refuse F e D = some (e, D') ∧ cA F D' Z K im tp tl (msu ms e) (c + 1) ∧ fC D D' ∧ D' 1 = D 1 := by
  obtain ⟨h1, h2, h3, ⟨m0, m1, m2, m3, m4, m5, m6⟩, h5, h6, h7, h8⟩ := h
  have hm := m6 (-e).toNat (by omega) (by omega)
  refine ⟨zwr (zwr D 0 9 e) 41 (-e).toNat (D 41 (-e).toNat + 1), ?_, ?_, ?_, ?_⟩
  · simp only [fX11_refuse, zlet]
    rw [if_pos (by omega), if_pos (by omega), if_pos (by omega), zwr_row (a := 0) (b := 41) (by omega), if_pos (by omega)]
  · refine ⟨h1.rows h8 (fun a ha => by rw [zwr_row (by omega), zwr_row (by omega)]) (fun a ha hb => by rw [zwr_row (by omega), zwr_row (by omega)]), cA.images h2 h8 (fun a ha => by rw [zwr_row (by omega), zwr_row (by omega)]) (fun a ha hb => by rw [zwr_row (by omega), zwr_row (by omega)]), ?_, ?_, ?_, by omega, h7, h8⟩
    · simpa [zwr] using h3
    · refine ⟨by simp [zwr, msu], by simp [zwr, msu]; rw [if_neg (by omega)]; exact m1, by simp [zwr, msu]; rw [if_neg (by omega)]; exact m2, by simp [zwr, msu]; rw [if_neg (by omega)]; exact m3, by simp [zwr, msu]; rw [if_neg (by omega)]; exact m4, by simp [zwr, msu]; rw [if_neg (by omega)]; exact m5, ?_⟩
      intro k k1 k6
      have hk := m6 k k1 k6
      by_cases hke : (k : Int) = -e
      · have x1 : msu ms e k = ms k + 1 := by unfold msu; rw [if_neg (by omega), if_pos hke]
        have : (-e).toNat = k := by omega
        rw [x1, this, zwr_eq]; omega
      · have x1 : msu ms e k = ms k := by unfold msu; rw [if_neg (by omega), if_neg hke]
        rw [x1, zwr_off (by omega), zwr_row (by omega)]; omega
    · intro s hs
      have := h5 s hs
      simp only [List.mem_cons, List.not_mem_nil, or_false] at hs
      rw [zwr_row (by omega), zwr_row (by omega)]; omega
  · intro a ha
    rw [zwr_row (by omega), zwr_row (by omega)]
  · rw [zwr_row (by omega), zwr_row (by omega)]
theorem pX12_refuses (h : rA D K im tp tl ms c) (e : Int) (he : e = -1 ∨ e = -2 ∨ e = -5 ∨ e = -6) (hc : c < 1000) :
    ∃ D', fX12_refuses F e D = some (e, D') ∧ rA D' K im tp tl (msu ms e) (c + 1) ∧ fR D D' ∧ D' 91 1 = D 91 1 := by
  obtain ⟨h1, h2, h3, ⟨m0, m1, m2, m3, m4, m5, m6⟩, h5, h6⟩ := h
  have hm := m6 (-e).toNat (by omega) (by omega)
  refine ⟨zwr (zwr D 91 0 e) 92 (-e).toNat (D 92 (-e).toNat + 1), ?_, ?_, ?_, ?_⟩
  · simp only [fX12_refuses, zlet]
    rw [zwr_row (a := 91) (b := 92) (by omega), if_pos (by omega)]
  · refine ⟨?_, ?_, ?_, ?_, ?_, by omega⟩
    · rw [zwr_row (by omega), zwr_row (by omega)]; exact h1
    · rw [zwr_row (b := 95) (by omega), zwr_row (b := 95) (by omega), zwr_row (b := 94) (by omega), zwr_row (b := 94) (by omega)]; exact h2
    · simpa [zwr] using h3
    · refine ⟨by simp [zwr, msu], by simp [zwr, msu]; rw [if_neg (by omega)]; exact m1, by simp [zwr, msu]; rw [if_neg (by omega)]; exact m2, by simp [zwr, msu]; rw [if_neg (by omega)]; exact m3, ?_, ?_, ?_⟩
      · simp only [msu]
        rw [if_neg (by omega), if_neg (by omega), if_neg (by omega), if_neg (by omega), if_neg (by omega), if_neg (by omega)]; exact m4
      · simp only [msu]
        rw [if_neg (by omega), if_neg (by omega), if_neg (by omega), if_neg (by omega), if_neg (by omega), if_neg (by omega), zwr_row (by omega), zwr_off (by omega), zwr_off (by omega)]; exact m5
      · intro k k1 k6
        have hk := m6 k k1 k6
        by_cases hke : (k : Int) = -e
        · have x1 : msu ms e k = ms k + 1 := by unfold msu; rw [if_neg (by omega), if_pos hke]
          have : (-e).toNat = k := by omega
          rw [x1, this, zwr_eq]; omega
        · have x1 : msu ms e k = ms k := by unfold msu; rw [if_neg (by omega), if_neg hke]
          rw [x1, zwr_off (by omega), zwr_row (by omega)]; omega
    · rw [zwr_row (by omega), zwr_off (by omega)]; omega
  · exact (((zfm.rfl' _ _ D).wf (by decide)).wr (by decide) (by decide))
  · rw [zwr_row (by omega), zwr_off (by omega)]
end CA
