/-! ===== ill ===== -/
def kIp (ill a : Int) (k : Nat) (d : Nat) : Int := match d with
  | 0 => a
  | d + 1 => kIp ill a k d * (if d < k then 100 - ill else ill)
theorem kIp_s (ill a : Int) (k d : Nat) : kIp ill a k (d + 1) = kIp ill a k d * (if d < k then 100 - ill else ill) := rfl
theorem kIp_in : ∀ i : Nat, i < 101 → ∀ d : Nat, d < 4 → ∀ k : Nat, k < 4 → ∀ e : Nat, e < 4 → 0 ≤ kIp (i : Int) (kC d k : Int) k e ∧ kIp (i : Int) (kC d k : Int) k e ≤ 3000000 := by decide +kernel
theorem kIp_sum : ∀ i : Nat, i < 101 → ∀ d : Nat, d < 4 → zsum (d + 1) (fun k => kIp (i : Int) (kC d k : Int) k d) = 100 ^ d := by decide +kernel
theorem kIll_le {i d : Nat} (hi : i < 101) (hd : d < 4) {b : Nat → Int} {S : Nat} (hb : ∀ k, k < d + 1 → 0 ≤ b k ∧ b k ≤ (S : Int)) :
    0 ≤ zsum (d + 1) (fun k => kIp (i : Int) (kC d k : Int) k d * b k) ∧ zsum (d + 1) (fun k => kIp (i : Int) (kC d k : Int) k d * b k) ≤ ((100 ^ d * S : Nat) : Int) := by
  refine ⟨zsum_nn (fun k hk => Int.mul_nonneg (kIp_in i hi d hd k (by omega) d hd).1 (hb k hk).1), ?_⟩
  have h1 : zsum (d + 1) (fun k => kIp (i : Int) (kC d k : Int) k d * b k) ≤ zsum (d + 1) (fun k => (S : Int) * kIp (i : Int) (kC d k : Int) k d) := zsum_mono (fun k hk => by
    rw [Int.mul_comm (S : Int)]
    exact Int.mul_le_mul_of_nonneg_left (hb k hk).2 (kIp_in i hi d hd k (by omega) d hd).1)
  rw [zsum_mul, kIp_sum i hi d hd] at h1
  rw [Int.natCast_mul, Int.mul_comm, show ((100 ^ d : Nat) : Int) = (100 : Int) ^ d by exact_mod_cast rfl]
  exact h1
noncomputable def kIw (K : Nat → Int) (d : Nat) (hours : Int) (m : Nat) : Int := zsum m (fun k => kIp (K 104) (kC d k : Int) k d * (kBB K ((k : Int) * hours)).1)
noncomputable def oIll (K : Nat → Int) (days hours : Int) : Int :=
  if (0 ≤ days ∧ days ≤ 3) ∧ 0 ≤ hours ∧ hours ≤ 100 then kMil (kIw K days.toNat hours (days.toNat + 1)).toNat (100 ^ days.toNat * kSuO K 0 0) else -1
theorem p100d {d : Nat} (h : d < 4) : (0 : Int) < 100 ^ d ∧ (100 : Int) ^ d ≤ 1000000 ∧ 0 < 100 ^ d ∧ 100 ^ d ≤ 1000000 := by
  rcases (by omega : d = 0 ∨ d = 1 ∨ d = 2 ∨ d = 3) with rfl | rfl | rfl | rfl <;> decide
section IL
variable {F : zFs} {D : zDa} {Z : Nat → Prop} {K : Nat → Int} {n sl r : Nat}
theorem pc_ill (h : qSt F D Z 1 K) (hG : zG F) (hZ : ∀ a, Z a → 126 ≤ a ∧ a < n) (hLt : cLot D) (hw : cRw F D Z n r) (hi : cPn F D K r) (hn : 126 ≤ n) (hn9 : n < 900000) (days hours : Int) :
    qS (fX11_ill days hours F D n sl) (cOut F D Z K n sl r (oIll K days hours)) := by
  have hk := h.1
  have ht := kTerms hk
  unfold fX11_ill
  by_cases hv : (0 ≤ days ∧ days ≤ 3) ∧ 0 ≤ hours ∧ hours ≤ 100
  · refine qS_neg (by omega) (qS_neg (by omega) (qS_neg (by omega) (qS_neg (by omega) ?_)))
    refine qS_call (pX4_refresh h hG hZ hLt hw hi hn hn9) (fun M ⟨F', D', n', sl', r', N, bq, eM, g, fr, w', f'⟩ => ?_)
    subst eM
    have G := g.G hG hn
    dsimp only
    refine qS_chk G (qS_leti ?_)
    have q' := qSt_grow h hZ hw.2.2.2.1 g f' (by simp) hw.2.1 hn
    have e74 : D' 7 4 = K 104 := q'.2.2.2.1 4 (by omega)
    rw [e74]
    obtain ⟨d, hd⟩ : ∃ d : Nat, days = (d : Int) := ⟨days.toNat, by omega⟩
    obtain ⟨i, hI⟩ : ∃ i : Nat, K 104 = (i : Int) := ⟨(K 104).toNat, by omega⟩
    subst hd
    have hr := hw.2.1
    have l' : cLot D' := hLt.fr (by rw [f' 53 (by simp; omega)])
    have cm := kCm_in hk
    refine qloopM2 (fun v4 v8 D1 => ∃ k : Nat, v8 = (k : Int) ∧ k ≤ d + 1 ∧ v4 = (kCm K : Int) * kIw K d hours k ∧ (0 ≤ v4 ∧ v4 ≤ (k : Int) * 554268000000000000) ∧ (∀ j, j < k → 0 ≤ (kBB K ((j : Int) * hours)).1 ∧ (kBB K ((j : Int) * hours)).1 ≤ (kSuO K 0 0 : Int)) ∧ cFresh F' D1 K N bq r' ∧ D1 60 11 = (r' : Int) ∧ zfr [60] D' D1) (fun _ v8 _ => (100 - v8).toNat) ?_ ⟨0, rfl, by omega, ?_, by omega, fun j hj => absurd hj (by omega), fr, w'.1, zfr.rfl' _ _⟩ (zfu_gt (by omega))
    · intro k47 v4 v8 D1 ⟨k, ev, hkd, e4, b4, bb, fr1, e11, f1⟩ ih
      subst ev
      have out : ∀ a, cOut F D Z K n sl r a (a, (F', D1, n', sl')) := fun a => ⟨F', D1, n', sl', r', rfl, g, fr1.pn, ⟨e11, w'.2⟩, (f'.mono (by simp)).trans (f1.mono (by simp))⟩
      unfold fX11_ill_47
      refine qS_ite (fun hlt => ?_) (fun hlt => ?_)
      · have : k = d + 1 := by omega
        subst this
        have w17 := fr1.1.2.2.2
        refine qloopM2 (fun v6 v8 D2 => ∃ e : Nat, v8 = (e : Int) ∧ e ≤ d ∧ v6 = 100 ^ e ∧ D2 = D1) (fun _ v8 _ => (100 - v8).toNat) ?_ ⟨0, rfl, by omega, rfl, rfl⟩ (zfu_gt (by omega))
        intro k137 v6 v8 D2 ⟨e, ev, he, e6, eD⟩ ih2
        subst ev eD
        have p := p100d (d := e) (by omega)
        unfold fX11_ill_137
        refine qS_ite (fun c => ?_) (fun c => ?_)
        · exact qS_chk (by omega) (qS_leti (qS_chk (by omega) (ih2 _ _ _ ⟨e + 1, by omega, by omega, by rw [Int.pow_succ, e6], rfl⟩ (by omega))))
        · have : e = d := by omega
          subst this
          have il := kIll_le (i := i) (d := e) (by omega) (by omega) (b := fun k => (kBB K ((k : Int) * hours)).1) (S := kSuO K 0 0) bb
          have eW : zsum (e + 1) (fun k => kIp (i : Int) (kC e k : Int) k e * (kBB K ((k : Int) * hours)).1) = kIw K e hours (e + 1) := by unfold kIw; rw [hI]
          rw [eW] at il
          have cb : 100 ^ e * (kCm K * kSuO K 0 0) ≤ 1000000 * 184756000000 := Nat.mul_le_mul p.2.2.2 cm.2.2.1
          have ex : v6 * D2 60 17 = ((kCm K * (100 ^ e * kSuO K 0 0) : Nat) : Int) := by
            rw [e6, w17, Nat.mul_left_comm, Int.natCast_mul, Int.natCast_mul]
            congr 1
          have ey : v4 = ((kCm K * (kIw K e hours (e + 1)).toNat : Nat) : Int) := by
            rw [e4, Int.natCast_mul]; congr 1; omega
          rw [ex, ey]
          rw [Nat.mul_left_comm] at cb
          have hle : kCm K * (kIw K e hours (e + 1)).toNat ≤ kCm K * (100 ^ e * kSuO K 0 0) := Nat.mul_le_mul_left _ (by omega)
          refine qS_chk (by omega) ?_
          refine qS_call (pX2_millionths (F := F') (D := D2) (Nat.mul_pos cm.1 (Nat.mul_pos p.2.2.1 cm.2.1)) hle (by omega)) (fun x hx => ?_)
          subst hx
          dsimp only
          rw [mil_scale cm.1]
          have eo : oIll K (e : Int) hours = (((kIw K e hours (e + 1)).toNat * 1000000 / (100 ^ e * kSuO K 0 0) : Nat) : Int) := by
            unfold oIll; rw [if_pos hv]; rfl
          rw [← eo]
          exact qS_ret (out _)
      · have hk1 : k ≤ d := by omega
        have mb := mul2b (a := (k : Int)) (b := hours) (A := 3) (B := 100) (by omega) hv.2
        refine qS_chk (by omega) ?_
        refine qS_call (pX4_choose hk fr1.1 (hours := (k : Int) * hours) (by omega)) (fun D2 ⟨⟨bp, bh, hb, c18, c19⟩, k2, f2⟩ => ?_)
        have fr2 := fr1.fr k2 f2
        have eb := kBB_eq hb
        have bi := kBst_in hk hb
        have f12 : zfr [60] D' D2 := f1.trans f2
        refine qS_call (pX2_sets (l'.fr (f12 53 (by decide))) (by omega)) (fun x hx => ?_)
        subst hx
        dsimp only
        rw [kCi_nat]
        have cb : 0 ≤ (kCm K : Int) * bp ∧ (kCm K : Int) * bp ≤ 184756000000 := by
          have a := Int.mul_le_mul_of_nonneg_left bi.2 (show (0 : Int) ≤ (kCm K : Int) by omega)
          have b := Int.mul_nonneg (show (0 : Int) ≤ (kCm K : Int) by omega) bi.1
          have e : (kCm K : Int) * (kSuO K 0 0 : Int) = ((kCm K * kSuO K 0 0 : Nat) : Int) := by rw [Int.natCast_mul]
          rw [e] at a
          omega
        refine qloopM2 (fun v9 v11 D3 => ∃ e : Nat, v11 = (e : Int) ∧ e ≤ d ∧ v9 = kIp (i : Int) (kC d k : Int) k e ∧ D3 = D2) (fun _ v11 _ => (100 - v11).toNat) ?_ ⟨0, rfl, by omega, rfl, rfl⟩ (zfu_gt (by omega))
        intro k79 v9 v11 D3 ⟨e, ev, he, e9, eD⟩ ih2
        subst ev eD
        have pin := kIp_in i (by omega) d (by omega) k (by omega) e (by omega)
        rw [← e9] at pin
        unfold fX11_ill_79
        have nx : ∀ s0 : Int, e < d → s0 = (if e < k then 100 - (i : Int) else (i : Int)) → qS (fX11_ill_104 k47 k79 (d : Int) hours (K 104) v4 1 (k : Int) (e : Int) s0 v9 F' D3 n' sl') (cOut F D Z K n sl r (oIll K (d : Int) hours)) := by
          intro s0 he' es
          have pin2 := kIp_in i (by omega) d (by omega) k (by omega) (e + 1) (by omega)
          have e10 : v9 * s0 = kIp (i : Int) (kC d k : Int) k (e + 1) := by rw [kIp_s, e9, es]
          unfold fX11_ill_104
          rw [e10]
          exact qS_chk (by omega) (qS_leti (qS_chk (by omega) (ih2 _ _ _ ⟨e + 1, by omega, by omega, rfl, rfl⟩ (by omega))))
        refine qS_ite (fun c => ?_) (fun c => ?_)
        · refine qS_ite (fun c2 => qS_chk (by omega) (nx _ (by omega) (by rw [if_pos (by omega), hI]))) (fun c2 => nx _ (by omega) (by rw [if_neg (by omega), hI]))
        · have : e = d := by omega
          subst this
          rw [c18]
          have pb := mul2b pin cb
          refine qS_chk (by omega) (qS_leti (qS_chk (by omega) (ih _ _ _ ⟨k + 1, by omega, by omega, ?_, by omega, fun j hj => ?_, fr2, by rw [k2 11 (by omega) (by omega)]; exact e11, f12⟩ (by omega))))
          · have es : kIw K e hours (k + 1) = kIw K e hours k + kIp (K 104) (kC e k : Int) k e * (kBB K ((k : Int) * hours)).1 := rfl
            rw [es, eb, Int.mul_add, ← e4, e9, hI]
            dsimp only
            rw [Int.mul_left_comm]
          · by_cases ej : j = k
            · rw [ej, eb]; exact bi
            · exact bb j (by omega)
    · show (0 : Int) = (kCm K : Int) * 0
      rw [Int.mul_zero]
  · have : oIll K days hours = -1 := by unfold oIll; rw [if_neg hv]
    rw [this]
    refine qS_ite (fun _ => qS_ret (cOut_no hi hw _)) (fun _ => qS_ite (fun _ => qS_ret (cOut_no hi hw _)) (fun _ => qS_ite (fun _ => qS_ret (cOut_no hi hw _)) (fun _ => qS_pos (by omega) (qS_ret (cOut_no hi hw _)))))
theorem pr_ill (hK : D 93 = K) (hk : kOk K) (hP : kPOk K) (hi : rSi D K) (days hours : Int) : qS (fX12_ill F days hours D) (fun x => x.1 = oIll K days hours ∧ rSi x.2 K ∧ zfm [102, 103, 104, 105, 106, 107, 108, 109, 110, 111] [18, 19, 20, 28, 29, 30, 34, 35, 36, 37] D x.2) := by
  have ht := kTerms hk
  unfold fX12_ill
  by_cases hv1 : 0 ≤ days ∧ days ≤ 3
  · refine qS_step (lies_t hv1) (qS_neg (by omega) ?_)
    by_cases hv2 : 0 ≤ hours ∧ hours ≤ 100
    · refine qS_step (lies_t hv2) (qS_neg (by omega) ?_)
      obtain ⟨d, hd⟩ : ∃ d : Nat, days = (d : Int) := ⟨days.toNat, by omega⟩
      obtain ⟨i, hI⟩ : ∃ i : Nat, K 104 = (i : Int) := ⟨(K 104).toNat, by omega⟩
      subst hd
      have cm := kCm_in hk
      refine qloop2 (fun v3 v7 D1 => ∃ k : Nat, v7 = (k : Int) ∧ k ≤ d + 1 ∧ v3 = kIw K d hours k ∧ (0 ≤ v3 ∧ v3 ≤ (k : Int) * 554268000000000000) ∧ (∀ j, j < k → 0 ≤ (kBB K ((j : Int) * hours)).1 ∧ (kBB K ((j : Int) * hours)).1 ≤ (kSuO K 0 0 : Int)) ∧ rSi D1 K ∧ (0 < k → D1 91 34 = (kSuO K 0 0 : Int)) ∧ zfm [102, 103, 104, 105, 106, 107, 108, 109, 110, 111] [18, 19, 20, 28, 29, 30, 34, 35, 36, 37] D D1) (fun _ v7 _ => (100 - v7).toNat) ?_ ⟨0, rfl, by omega, rfl, by omega, fun j hj => absurd hj (by omega), hi, fun hh => absurd hh (by omega), zfm.rfl' _ _ D⟩ (zfu_gt (by omega))
      intro k29 v3 v7 D1 ⟨k, ev, hkd, e3, b3, bb, si1, e34, f1⟩ ih
      subst ev
      have K1 : D1 93 = K := by rw [f1.1 93 (by decide) (by decide)]; exact hK
      unfold fX12_ill_29
      refine qS_ite (fun hlt => ?_) (fun hlt => ?_)
      · have : k = d + 1 := by omega
        subst this
        refine qloop2 (fun v5 v7 D2 => ∃ e : Nat, v7 = (e : Int) ∧ e ≤ d ∧ v5 = 100 ^ e ∧ D2 = D1) (fun _ v7 _ => (100 - v7).toNat) ?_ ⟨0, rfl, by omega, rfl, rfl⟩ (zfu_gt (by omega))
        intro k114 v5 v7 D2 ⟨e, ev, he, e5, eD⟩ ih2
        subst ev eD
        have p := p100d (d := e) (by omega)
        unfold fX12_ill_114
        refine qS_ite (fun c => ?_) (fun c => ?_)
        · exact qS_chk (by omega) (qS_leti (qS_chk (by omega) (ih2 _ _ _ ⟨e + 1, by omega, by omega, by rw [Int.pow_succ, e5], rfl⟩ (by omega))))
        · have : e = d := by omega
          subst this
          have il := kIll_le (i := i) (d := e) (by omega) (by omega) (b := fun k => (kBB K ((k : Int) * hours)).1) (S := kSuO K 0 0) bb
          have eW : zsum (e + 1) (fun k => kIp (i : Int) (kC e k : Int) k e * (kBB K ((k : Int) * hours)).1) = kIw K e hours (e + 1) := by unfold kIw; rw [hI]
          rw [eW] at il
          have cb : 100 ^ e * kSuO K 0 0 ≤ 1000000 * 184756000000 := Nat.mul_le_mul p.2.2.2 cm.2.2.2
          have ex : v5 * D2 91 34 = ((100 ^ e * kSuO K 0 0 : Nat) : Int) := by
            rw [e5, e34 (by omega), Int.natCast_mul]
            congr 1
          have ey : v3 = (((kIw K e hours (e + 1)).toNat : Nat) : Int) := by rw [e3]; omega
          rw [ex, ey]
          refine qS_chk (by omega) ?_
          refine qS_call (pX12_millionths (F := F) (D := D2) (Nat.mul_pos p.2.2.1 cm.2.1) (by omega) (by omega)) (fun x hx => ?_)
          subst hx
          refine qS_ret ⟨?_, si1, f1⟩
          unfold oIll; rw [if_pos ⟨hv1, hv2⟩]; rfl
      · have hk1 : k ≤ d := by omega
        have mb := mul2b (a := (k : Int)) (b := hours) (A := 3) (B := 100) (by omega) hv2
        refine qS_chk (by omega) ?_
        refine qS_call (pX12_bests K1 hk hP si1 (hours := (k : Int) * hours) (by omega)) (fun D2 ⟨s2, v2, ⟨bp, bh, hb, c36, c37⟩, f2⟩ => ?_)
        have si2 := rSi.of s2 v2 (f2.2 1 (by decide))
        have eb := kBB_eq hb
        have bi := kBst_in hk hb
        have f12 := f1.trans f2
        have K2 : D2 93 = K := by rw [f12.1 93 (by decide) (by decide)]; exact hK
        refine qS_call (pX12_choose (F := F) (D := D2) (n := (d : Int)) (k := (k : Int)) (by omega)) (fun x hx => ?_)
        subst hx
        dsimp only
        rw [kCi_nat]
        have cb : 0 ≤ bp ∧ bp ≤ 184756000000 := by omega
        have tm : fX12_term F 4 D2 = some ((i : Int), D2) := by rw [pX12_term (w := 4) (k := 4) rfl (by omega), K2, hI]
        refine qloop2 (fun v8 v10 D3 => ∃ e : Nat, v10 = (e : Int) ∧ e ≤ d ∧ v8 = kIp (i : Int) (kC d k : Int) k e ∧ D3 = D2) (fun _ v10 _ => (100 - v10).toNat) ?_ ⟨0, rfl, by omega, rfl, rfl⟩ (zfu_gt (by omega))
        intro k54 v8 v10 D3 ⟨e, ev, he, e9, eD⟩ ih2
        subst ev eD
        have pin := kIp_in i (by omega) d (by omega) k (by omega) e (by omega)
        rw [← e9] at pin
        unfold fX12_ill_54
        have nx : ∀ s0 : Int, e < d → s0 = (if e < k then 100 - (i : Int) else (i : Int)) → qS (fX12_ill_85 F k29 k54 (d : Int) hours v3 1 (k : Int) (e : Int) s0 v8 D3) (fun x => x.1 = oIll K (d : Int) hours ∧ rSi x.2 K ∧ zfm [102, 103, 104, 105, 106, 107, 108, 109, 110, 111] [18, 19, 20, 28, 29, 30, 34, 35, 36, 37] D x.2) := by
          intro s0 he' es
          have pin2 := kIp_in i (by omega) d (by omega) k (by omega) (e + 1) (by omega)
          have e10 : v8 * s0 = kIp (i : Int) (kC d k : Int) k (e + 1) := by rw [kIp_s, e9, es]
          unfold fX12_ill_85
          rw [e10]
          exact qS_chk (by omega) (qS_leti (qS_chk (by omega) (ih2 _ _ _ ⟨e + 1, by omega, by omega, rfl, rfl⟩ (by omega))))
        refine qS_ite (fun c => ?_) (fun c => ?_)
        · refine qS_ite (fun c2 => ?_) (fun c2 => ?_)
          · exact qS_step tm (qS_chk (by omega) (nx _ (by omega) (by rw [if_pos (by omega)])))
          · exact qS_step tm (nx _ (by omega) (by rw [if_neg (by omega)]))
        · have : e = d := by omega
          subst this
          rw [c36]
          have pb := mul2b pin cb
          refine qS_chk (by omega) (qS_leti (qS_chk (by omega) (ih _ _ _ ⟨k + 1, by omega, by omega, ?_, by omega, fun j hj => ?_, si2, fun _ => s2.2.2.2, f12⟩ (by omega))))
          · have es : kIw K e hours (k + 1) = kIw K e hours k + kIp (K 104) (kC e k : Int) k e * (kBB K ((k : Int) * hours)).1 := rfl
            rw [es, eb, ← e3, e9, hI]
          · by_cases ej : j = k
            · rw [ej, eb]; exact bi
            · exact bb j (by omega)
    · have : oIll K days hours = -1 := by unfold oIll; rw [if_neg (fun x => hv2 x.2)]
      rw [this]
      exact qS_step (lies_f hv2) (qS_pos rfl (qS_ret ⟨rfl, hi, zfm.rfl' _ _ D⟩))
  · have : oIll K days hours = -1 := by unfold oIll; rw [if_neg (fun x => hv1 x.1)]
    rw [this]
    exact qS_step (lies_f hv1) (qS_pos rfl (qS_ret ⟨rfl, hi, zfm.rfl' _ _ D⟩))
end IL
