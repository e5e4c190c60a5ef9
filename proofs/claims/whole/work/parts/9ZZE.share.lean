/-! ===== share, class ===== -/
def kPr (K : Nat → Int) (q : Nat) : Int := kTakes K q 1 0 0 + kTakes K q 2 0 0
def kFh (K : Nat → Int) (f : Nat) : Int := K (347 + f)
def kSz (K : Nat → Int) : Nat := min 12 (K 390).toNat
theorem kPr_in (K : Nat → Int) (q : Nat) : 2 ≤ kPr K q ∧ kPr K q ≤ 40 := by
  have a := kTakes_in K q 1 0 0
  have b := kTakes_in K q 2 0 0
  unfold kPr; omega
theorem kH_cg {h h' : Nat → Int} (e : ∀ f, f < 3 → h' f = h f) (g : Nat) (a : Int) : ∀ f, f < 3 → kH h' g a f = kH h g a f := fun f hf => by
  unfold kH; rw [e f hf]
theorem kMx_cg (p : Nat → Int) : ∀ m q h h', (∀ f, f < 3 → h' f = h f) → kMx p m q h' = kMx p m q h
  | 0, _, _, _, _ => rfl
  | m + 1, q, h, h', e => by
    rw [kMx_s, kMx_s]
    have op : ∀ f, f < 3 → kOq p m q h' f = kOq p m q h f := fun f hf => by
      unfold kOq; rw [e f hf, kMx_cg p m (q + 1) _ _ (kH_cg e f (p q))]
    rw [op 0 (by omega), op 1 (by omega), op 2 (by omega), kMx_cg p m (q + 1) h h' e]
theorem kOq_cg (p : Nat → Int) (m q : Nat) {h h' : Nat → Int} (e : ∀ f, f < 3 → h' f = h f) {f : Nat} (hf : f < 3) : kOq p m q h' f = kOq p m q h f := by
  unfold kOq; rw [e f hf, kMx_cg p m (q + 1) _ _ (kH_cg e f (p q))]
theorem kCh_cg (p : Nat → Int) (m q : Nat) {h h' : Nat → Int} (e : ∀ f, f < 3 → h' f = h f) : kCh p m q h' = kCh p m q h := by
  unfold kCh
  rw [kMx_cg p (m + 1) q h h' e, kOq_cg p m q e (by omega : 0 < 3), kOq_cg p m q e (by omega : 1 < 3), kOq_cg p m q e (by omega : 2 < 3)]
theorem kHs_cg (p : Nat → Int) (S : Nat) {h h' : Nat → Int} (e : ∀ f, f < 3 → h' f = h f) : ∀ q, ∀ f, f < 3 → kHs p S h' q f = kHs p S h q f
  | 0, f, hf => e f hf
  | q + 1, f, hf => by
    have ih := kHs_cg p S e q
    rw [kHs_s, kHs_s, kCh_cg p _ q ih]
    unfold kNx
    split
    · exact kH_cg ih _ _ f hf
    · exact ih f hf
theorem kWho_cg (p : Nat → Int) (S : Nat) {h h' : Nat → Int} (e : ∀ f, f < 3 → h' f = h f) (q : Nat) : kWho p S h' q = kWho p S h q := by
  unfold kWho; rw [kCh_cg p _ q (kHs_cg p S e q)]
/-- what the sharer holds, by the hours that it has seen -/
def cSc (D : zDa) (K : Nat → Int) : Prop := D 78 2 ≤ D 1 16 ∧ (D 78 2 = D 1 16 → D 78 11 = (kMx (kPr K) (kSz K) 0 (D 79) : Int) ∧ ∀ q, q < kSz K → D 85 q = kWho (kPr K) (kSz K) (D 79) q)
section SR
variable {F : zFs} {D : zDa} {Z : Nat → Prop} {K : Nat → Int} {n sl rr : Nat}
theorem pX7_sameHours (D : zDa) : qS (fX7_sameHours F D) (fun x => x.2 = D ∧ ((x.1 = 1 ∧ ∀ f, f < 3 → D 79 f = D 11 f) ∨ (x.1 = 0 ∧ ¬ ∀ f, f < 3 → D 79 f = D 11 f))) := by
  unfold fX7_sameHours
  refine qloop1 (fun v D1 => ∃ i : Nat, v = (i : Int) ∧ i ≤ 3 ∧ (∀ f, f < i → D 79 f = D 11 f) ∧ D1 = D) (fun v _ => (100 - v).toNat) ?_ ⟨0, rfl, by omega, fun f hf => absurd hf (by omega), rfl⟩ (zfu_gt (by omega))
  intro k v D1 ⟨i, ev, hi, r, eD⟩ ih
  subst ev eD
  unfold fX7_sameHours_2
  refine qS_ite (fun c1 => qS_chk (by omega) ?_) (fun c1 => ?_)
  · rw [show ((i : Int)).toNat = i by omega]
    refine qS_ite (fun c2 => qS_chk (by omega) (ih _ _ ⟨i + 1, by omega, by omega, fun f hf => ?_, rfl⟩ (by omega))) (fun c2 => qS_ret ⟨rfl, Or.inr ⟨rfl, fun q => c2 (q i (by omega))⟩⟩)
    by_cases e : f = i
    · rw [e]; exact c2
    · exact r f (by omega)
  · exact qS_ret ⟨rfl, Or.inl ⟨rfl, fun f hf => r f (by omega)⟩⟩
/-- behind a refresh -/
def sOut (F : zFs) (D : zDa) (n sl rr : Nat) (K : Nat → Int) (M : zM) : Prop :=
  ∃ F' D' n' sl' rr', M = (F', D', n', sl') ∧ gS F D n sl rr F' D' n' sl' rr' 60 ∧ cRr F' D' n' rr' ∧ D' 78 2 = D 1 16 ∧ D' 1 = D 1 ∧ (∀ f, f < 3 → D' 79 f = kFh K f) ∧ D' 78 11 = (kMx (kPr K) (kSz K) 0 (kFh K) : Int) ∧ ∀ q, q < kSz K → D' 85 q = kWho (kPr K) (kSz K) (kFh K) q
theorem sR_148 {c : Nat → Nat} (hG : zG F) (hS : cSo D (kSz K) (kPr K) c) (hh : cLf D (kFh K)) (hw : cRr F D n rr) (hn : 126 ≤ n) (hn9 : n + 200 < 900000) (h11 : D 78 11 = (kMx (kPr K) (kSz K) 0 (kFh K) : Int)) :
    qS (zfix (fun _ _ _ _ _ _ => none) (fX7_refresh_148) zfu (kMx (kPr K) (kSz K) 0 (kFh K) : Int) 0 F D n sl) (fun M => ∃ F' D' n' sl' rr', M = (F', D', n', sl') ∧ gS F D n sl rr F' D' n' sl' rr' 40 ∧ cRr F' D' n' rr' ∧ (∀ k, k ≠ 9 → D' 78 k = D 78 k) ∧ D' 1 = D 1 ∧ D' 79 = D 79 ∧ ∀ q, q < kSz K → D' 85 q = kWho (kPr K) (kSz K) (kFh K) q) := by
  have hS12 := hS.1
  have hl9 : ∀ f, f < 3 → 0 ≤ kFh K f ∧ kFh K f ≤ 99 := fun f hf => (hh f hf).2
  have hin := kHs_in (p := kPr K) (S := kSz K) (h := kFh K) (fun q => by have := kPr_in K q; omega) hl9
  generalize kSz K = S at *
  generalize kPr K = p at *
  generalize kFh K = h at *
  refine qloopV2 (fun v1 v2 F1 D1 n1 sl1 => ∃ q r1 : Nat, v2 = (q : Int) ∧ q ≤ S ∧ v1 = (kMx p (S - q) q (kHs p S h q) : Int) ∧ gS F D n sl rr F1 D1 n1 sl1 r1 (3 * q) ∧ cRr F1 D1 n1 r1 ∧ cLf D1 (kHs p S h q) ∧ (∀ x, x < q → D1 85 x = kWho p S h x) ∧ (∀ k, k ≠ 9 → D1 78 k = D 78 k) ∧ (∀ a, a < 126 ∧ a ≠ 84 ∧ a ≠ 85 → a ≠ 78 → a ≠ 82 → a ≠ 83 → D1 a = D a)) (fun _ v2 => (100 - v2).toNat) ?_ ⟨0, rr, rfl, by omega, by rw [Nat.sub_zero]; rfl, gS.rfl' F D n sl rr, hw, hh, fun x hx => absurd hx (by omega), fun _ _ => rfl, fun _ _ _ _ _ => rfl⟩ (zfu_gt (by omega))
  intro k148 v1 v2 F1 D1 n1 sl1 ⟨q, r1, e2, hq, e1, g1, w1, l1, c1, e78, ea⟩ ih
  subst e2 e1
  unfold fX7_refresh_148
  rw [e78 4 (by omega), hS.2.1]
  refine qS_ite (fun hlt => ?_) (fun hlt => ?_)
  · have hqS : q < S := by omega
    have G1 := g1.G hG hn
    have nb := g1.2.1
    have hS1 : cSo D1 S p c := hS.fr (e78 4 (by omega)) (ea 80 (by omega) (by omega) (by omega) (by omega)) (ea 81 (by omega) (by omega) (by omega) (by omega))
    refine qS_call (pX7_firstFriend (F := F1) (n := n1) (sl := sl1) G1.1 hS1 l1 w1 G1.2 (by omega) hqS) (fun x ⟨F2, D2, n2, sl2, r2, ex, g2, w2, l2, k2, ea2⟩ => ?_)
    subst ex
    have g12 := g1.trans g2
    dsimp only
    refine qS_chk (g12.G hG hn) (qS_chk (by omega) (qS_leti ?_))
    rw [show ((q : Int)).toNat = q by omega, zwr_eq]
    have mle := kMx_le p (S - q) q (kHs p S h q)
    have nx := kMx_nx (p := p) (m := S - (q + 1)) (q := q) (h := kHs p S h q)
    rw [show S - (q + 1) + 1 = S - q by omega, ← kHs_s] at nx
    have ewho : kWho p S h q = if kCh p (S - (q + 1)) q (kHs p S h q) < 3 then (kCh p (S - (q + 1)) q (kHs p S h q) : Int) else -1 := rfl
    rw [← ewho]
    have go : ∀ v : Int, v = (kMx p (S - (q + 1)) (q + 1) (kHs p S h (q + 1)) : Int) → qS (fX7_refresh_181 k148 v (q : Int) F2 (zwr D2 85 q (kWho p S h q)) n2 sl2) (fun M => ∃ F' D' n' sl' rr', M = (F', D', n', sl') ∧ gS F D n sl rr F' D' n' sl' rr' 40 ∧ cRr F' D' n' rr' ∧ (∀ k, k ≠ 9 → D' 78 k = D 78 k) ∧ D' 1 = D 1 ∧ D' 79 = D 79 ∧ ∀ q, q < S → D' 85 q = kWho p S h q) := by
      intro v hv
      unfold fX7_refresh_181
      have hr2 := w2.2.1
      have e85 : D2 85 = D1 85 := ea2 85 (by omega) (by omega) (by omega) (by omega)
      refine qS_chk (by omega) (ih _ _ _ _ _ _ ⟨q + 1, r2, by omega, by omega, hv, (g12.wr (by decide)).up (by omega), ⟨by rw [zwr_row (by omega)]; exact w2.1, w2.2⟩, fun f hf => ?_, fun x hx => ?_, fun k hk => ?_, fun a h1 h2 h3 h4 => ?_⟩ (by omega))
      · rw [zwr_row (by omega), kHs_s]; exact l2 f hf
      · rw [zwr_at]
        by_cases e : x = q
        · rw [if_pos e, e]
        · rw [if_neg e, e85]; exact c1 x (by omega)
      · rw [zwr_row (by omega), k2 k hk]; exact e78 k hk
      · rw [zwr_row h1.2.2, ea2 a ⟨h1.1, h1.2.1⟩ h2 h3 h4]; exact ea a h1 h2 h3 h4
    by_cases cc : kCh p (S - (q + 1)) q (kHs p S h q) < 3
    · rw [if_pos cc] at nx ewho
      refine qS_neg (by rw [ewho]; omega) (qS_chk (by omega) (go _ (by omega)))
    · rw [if_neg cc] at nx ewho
      exact qS_pos ewho (go _ (by omega))
  · have : q = S := by omega
    subst this
    refine qS_ret ⟨F1, D1, n1, sl1, r1, rfl, g1.up (by omega), w1, e78, ea 1 (by omega) (by omega) (by omega) (by omega), ea 79 (by omega) (by omega) (by omega) (by omega), c1⟩
theorem sR_22 (h : qSt F D Z 1 K) (hG : zG F) (hZ : ∀ a, Z a → 126 ≤ a ∧ a < n) (hr : ¬ Z rr) (hw : cRr F D n rr) (hn : 126 ≤ n) (hn9 : n + 300 < 900000) : qS (fX7_refresh_22 F D n sl) (sOut F D n sl rr K) := by
  have hk := h.1
  have h0 := hk.1
  have hfh := hk.2.2.2.2.1
  have Z1 : ∀ a, Z a → 126 ≤ a := fun a ha => (hZ a ha).1
  unfold fX7_refresh_22
  refine qS_leti (qS_chk (by omega) (qS_leti ?_))
  have e15 : (zrow (zwr D 78 2 (D 1 16)) 79 (va_cpy ((zwr D 78 2 (D 1 16)) 11) ((zwr D 78 2 (D 1 16)) 79) 0 0 3)) 1 5 = K 390 := by rw [zrow_row (by omega), zwr_row (by omega)]; exact h.2.1
  rw [e15, pMinI]
  refine qS_step rfl (qS_leti ?_)
  have hsz : min (12 : Int) (K 390) = (kSz K : Int) := by unfold kSz; omega
  rw [hsz]
  have hs12 : kSz K ≤ 12 ∧ (kSz K : Int) ≤ K 390 := by unfold kSz; omega
  have q4 : (zwr (zrow (zwr D 78 2 (D 1 16)) 79 (va_cpy ((zwr D 78 2 (D 1 16)) 11) ((zwr D 78 2 (D 1 16)) 79) 0 0 3)) 78 4 (kSz K : Int)) 78 4 = (kSz K : Int) := zwr_eq
  have q2 : (zwr (zrow (zwr D 78 2 (D 1 16)) 79 (va_cpy ((zwr D 78 2 (D 1 16)) 11) ((zwr D 78 2 (D 1 16)) 79) 0 0 3)) 78 4 (kSz K : Int)) 78 2 = D 1 16 := by rw [zwr_off (Or.inr (by omega)), zrow_row (by omega), zwr_eq]
  have q9 : (zwr (zrow (zwr D 78 2 (D 1 16)) 79 (va_cpy ((zwr D 78 2 (D 1 16)) 11) ((zwr D 78 2 (D 1 16)) 79) 0 0 3)) 78 4 (kSz K : Int)) 78 9 = D 78 9 := by rw [zwr_off (Or.inr (by omega)), zrow_row (by omega), zwr_off (Or.inr (by omega))]
  have q79 : ∀ f, f < 3 → (zwr (zrow (zwr D 78 2 (D 1 16)) 79 (va_cpy ((zwr D 78 2 (D 1 16)) 11) ((zwr D 78 2 (D 1 16)) 79) 0 0 3)) 78 4 (kSz K : Int)) 79 f = kFh K f := fun f hf => by
    rw [zwr_row (by omega), zrow_eq]
    unfold va_cpy
    rw [if_pos (by omega), zwr_row (by omega), show 0 + (f - 0) = f by omega]
    exact h.2.2.2.2.2.1 f hf
  have f7 : zfr [78, 79] D (zwr (zrow (zwr D 78 2 (D 1 16)) 79 (va_cpy ((zwr D 78 2 (D 1 16)) 11) ((zwr D 78 2 (D 1 16)) 79) 0 0 3)) 78 4 (kSz K : Int)) := (((zfr.rfl' _ _).wr (by decide)).row (by decide)).wr (by decide)
  generalize zwr (zrow (zwr D 78 2 (D 1 16)) 79 (va_cpy ((zwr D 78 2 (D 1 16)) 11) ((zwr D 78 2 (D 1 16)) 79) 0 0 3)) 78 4 (kSz K : Int) = D7 at *
  refine qloopM1 (fun v D1 => ∃ q : Nat, v = (q : Int) ∧ q ≤ kSz K ∧ (∀ x, x < q → D1 80 x = kPr K x) ∧ (∃ c, cSrt D1 q (kPr K) c) ∧ zfr [49, 50, 51, 80, 81] D7 D1) (fun v _ => (100 - v).toNat) ?_ ⟨0, rfl, by omega, fun x hx => absurd hx (by omega), ⟨fun x => x, fun i hi => absurd hi (by omega), fun a b _ h2 => absurd h2 (by omega), List.Perm.refl _⟩, zfr.rfl' _ _⟩ (zfu_gt (by omega))
  intro k68 v D1 ⟨q, ev, hq, h80, ⟨c, hsrt⟩, f1⟩ ih
  subst ev
  have f71 : zfr [49, 50, 51, 78, 79, 80, 81] D D1 := (f7.mono (by decide)).trans (f1.mono (by decide))
  unfold fX7_refresh_68
  rw [f1 78 (by decide), q4]
  refine qS_ite (fun hlt => ?_) (fun hlt => ?_)
  · have hqn : (q : Int) < K 390 := by omega
    refine qS_call (pX10_hoursOf (h.zfr Z1 f71 (by decide)) hG Z1 hqn (l := 1) (e := 0) (d := 0) (by omega) (by omega) (by omega)) (fun x ⟨hx, f2⟩ => ?_)
    obtain ⟨x1, D2⟩ := x
    dsimp only at hx f2 ⊢
    have f72 : zfr [49, 50, 51, 78, 79, 80, 81] D D2 := f71.trans (f2.mono (by decide))
    refine qS_call (pX10_hoursOf (h.zfr Z1 f72 (by decide)) hG Z1 hqn (l := 2) (e := 0) (d := 0) (by omega) (by omega) (by omega)) (fun y ⟨hy, f3⟩ => ?_)
    obtain ⟨y1, D3⟩ := y
    dsimp only at hy f3 ⊢
    have pin := kPr_in K q
    have ep : x1 + y1 = kPr K q := by rw [hx, hy]; rfl
    rw [ep, show ((q : Int)).toNat = q by omega]
    refine qS_chk (by omega) (qS_leti ?_)
    have s3 : cSrt (zwr D3 80 q (kPr K q)) q (kPr K) c := by unfold cSrt; rw [zwr_row (by omega), f3 81 (by decide), f2 81 (by decide)]; exact hsrt
    have h80' : ∀ x, x ≤ q → (zwr D3 80 q (kPr K q)) 80 x = kPr K x := fun x hx => by
      rw [zwr_at]
      by_cases e : x = q
      · rw [if_pos e, e]
      · rw [if_neg e, f3 80 (by decide), f2 80 (by decide)]; exact h80 x (by omega)
    refine qS_call (pX7_sortIn (F := F) (by omega) h80' s3) (fun D4 ⟨s4, f4⟩ => ?_)
    refine qS_chk (by omega) (ih _ _ ⟨q + 1, by omega, by omega, fun x hx => ?_, s4, (((f1.trans (f2.mono (by decide))).trans (f3.mono (by decide))).wr (by decide)).trans (f4.mono (by decide))⟩ (by omega))
    rw [f4 80 (by decide)]; exact h80' x (by omega)
  · have eq : q = kSz K := by omega
    subst eq
    refine qS_chk (by omega) (qS_leti ?_)
    have r82 : ∀ f, f < 3 → (zrow D1 82 (va_cpy (D1 11) (D1 82) 0 0 3)) 82 f = kFh K f := fun f hf => by
      rw [zrow_eq]
      unfold va_cpy
      rw [if_pos (by omega), f71 11 (by decide), show 0 + (f - 0) = f by omega]
      exact h.2.2.2.2.2.1 f hf
    have g15 : ∀ a, a ≠ 82 → (zrow D1 82 (va_cpy (D1 11) (D1 82) 0 0 3)) a = D1 a := fun a ha => zrow_row ha
    have f15 : zfr [49, 50, 51, 78, 79, 80, 81, 82] D (zrow D1 82 (va_cpy (D1 11) (D1 82) 0 0 3)) := (f71.mono (by decide)).row (by decide)
    generalize zrow D1 82 (va_cpy (D1 11) (D1 82) 0 0 3) = D15 at *
    have e78 : D15 78 = D7 78 := by rw [g15 78 (by omega), f1 78 (by decide)]
    have hS : cSo D15 (kSz K) (kPr K) c := ⟨hs12.1, by rw [e78]; exact q4, fun x hx => by rw [g15 80 (by omega)]; exact h80 x hx, kPr_in K, by rw [g15 81 (by omega)]; exact hsrt.1, hsrt.2.1, hsrt.2.2⟩
    have hh : cLf D15 (kFh K) := fun f hf => ⟨r82 f hf, hfh f hf⟩
    have w15 : cRr F D15 n rr := ⟨by rw [e78, q9]; exact hw.1, hw.2⟩
    have gs15 : gS F D n sl rr F D15 n sl rr 0 := ⟨fun _ _ => rfl, by omega, Or.inl rfl, Nat.le_refl _, fun a h1 h2 h3 => f15 a (fun hm => by simp at hm h3; omega)⟩
    refine qS_call (pX7_mostOfAll (F := F) (n := n) (sl := sl) hG hS hh w15 hn (by omega)) (fun x ⟨F2, D2, n2, sl2, r2, ex, g2, w2, k2, ea2⟩ => ?_)
    subst ex
    have g12 := gs15.trans g2
    have G2 := g12.G hG hn
    have nb := g12.2.1
    dsimp only
    refine qS_chk G2 (qS_leti (qS_leti ?_))
    rw [zwr_eq]
    have hr2 := w2.2.1
    have S2 : cSo (zwr D2 78 11 (kMx (kPr K) (kSz K) 0 (kFh K) : Int)) (kSz K) (kPr K) c := hS.fr (by rw [zwr_off (Or.inr (by omega))]; exact k2 4 (by omega)) (by rw [zwr_row (by omega)]; exact ea2 80 (by omega) (by omega) (by omega)) (by rw [zwr_row (by omega)]; exact ea2 81 (by omega) (by omega) (by omega))
    have H2 : cLf (zwr D2 78 11 (kMx (kPr K) (kSz K) 0 (kFh K) : Int)) (kFh K) := fun f hf => by rw [zwr_row (by omega), ea2 82 (by omega) (by omega) (by omega)]; exact hh f hf
    have W2 : cRr F2 (zwr D2 78 11 (kMx (kPr K) (kSz K) 0 (kFh K) : Int)) n2 r2 := ⟨by rw [zwr_off (Or.inr (by omega))]; exact w2.1, w2.2⟩
    refine qS_mono (sR_148 (F := F2) (n := n2) (sl := sl2) G2.1 S2 H2 W2 G2.2 (by omega) zwr_eq) (fun M ⟨F3, D3, n3, sl3, r3, eM, g3, w3, k3, e13, e793, c3⟩ => ?_)
    refine ⟨F3, D3, n3, sl3, r3, eM, ((g12.wr (by decide)).trans g3).up (by omega), w3, ?_, ?_, fun f hf => ?_, ?_, c3⟩
    · rw [k3 2 (by omega), zwr_off (Or.inr (by omega)), k2 2 (by omega), e78]; exact q2
    · rw [e13, zwr_row (by omega), ea2 1 (by omega) (by omega) (by omega)]; exact f15 1 (by decide)
    · rw [e793, zwr_row (by omega), ea2 79 (by omega) (by omega) (by omega), g15 79 (by omega), f1 79 (by decide)]; exact q79 f hf
    · rw [k3 11 (by omega), zwr_eq]
theorem pX7_refresh (h : qSt F D Z 1 K) (hG : zG F) (hZ : ∀ a, Z a → 126 ≤ a ∧ a < n) (hr : ¬ Z rr) (hw : cRr F D n rr) (hi : cSc D K) (hn : 126 ≤ n) (hn9 : n + 300 < 900000) : qS (fX7_refresh F D n sl) (sOut F D n sl rr K) := by
  unfold fX7_refresh
  refine qS_ite (fun e => ?_) (fun e => sR_22 h hG hZ hr hw hn hn9)
  refine qS_call (pX7_sameHours (F := F) D) (fun x ⟨hx2, hx⟩ => ?_)
  obtain ⟨x1, D2⟩ := x
  dsimp only at hx2 hx ⊢
  subst hx2
  rcases hx with ⟨hx, hs⟩ | ⟨hx, hs⟩
  · have c := hi.2 e
    have eh : ∀ f, f < 3 → D2 79 f = kFh K f := fun f hf => by rw [hs f hf]; exact h.2.2.2.2.2.1 f hf
    rw [kMx_cg _ _ _ _ _ eh] at c
    refine qS_neg (by omega) (qS_ret ⟨F, D2, n, sl, rr, rfl, (gS.rfl' F D2 n sl rr).up (by omega), hw, e, rfl, eh, c.1, fun q hq => ?_⟩)
    rw [c.2 q hq, kWho_cg _ _ eh]
  · exact qS_pos hx (sR_22 h hG hZ hr hw hn hn9)
def oShare (K : Nat → Int) (q : Int) : Int := if q = -1 then (kMx (kPr K) (kSz K) 0 (kFh K) : Int) else if 0 ≤ q ∧ q < (kSz K : Int) then kWho (kPr K) (kSz K) (kFh K) q.toNat else -1
/-- what a call to share leaves -/
def shOut (F : zFs) (D : zDa) (K : Nat → Int) (n sl rr : Nat) (ans : Int) (x : Int × zM) : Prop :=
  ∃ F' D' n' sl' rr', x = (ans, (F', D', n', sl')) ∧ gS F D n sl rr F' D' n' sl' rr' 60 ∧ cRr F' D' n' rr' ∧ D' 1 = D 1 ∧ cSc D' K
theorem sOut.si {M : zM} (h : sOut F D n sl rr K M) : ∃ F' D' n' sl' rr', M = (F', D', n', sl') ∧ gS F D n sl rr F' D' n' sl' rr' 60 ∧ cRr F' D' n' rr' ∧ D' 1 = D 1 ∧ cSc D' K ∧ D' 78 11 = (kMx (kPr K) (kSz K) 0 (kFh K) : Int) ∧ ∀ q, q < kSz K → D' 85 q = kWho (kPr K) (kSz K) (kFh K) q := by
  obtain ⟨F', D', n', sl', rr', eM, g, w, e2, e1, e79, e11, c⟩ := h
  refine ⟨F', D', n', sl', rr', eM, g, w, e1, ⟨by rw [e2, e1]; exact Int.le_refl _, fun _ => ⟨?_, fun q hq => ?_⟩⟩, e11, c⟩
  · rw [kMx_cg _ _ _ _ _ e79]; exact e11
  · rw [kWho_cg _ _ e79]; exact c q hq
theorem pc_share (h : qSt F D Z 1 K) (hG : zG F) (hZ : ∀ a, Z a → 126 ≤ a ∧ a < n) (hr : ¬ Z rr) (hw : cRr F D n rr) (hi : cSc D K) (hn : 126 ≤ n) (hn9 : n + 300 < 900000) (q : Int) : qS (fX11_share q F D n sl) (shOut F D K n sl rr (oShare K q)) := by
  have h0 := h.1.1
  have hs12 : kSz K ≤ 12 ∧ (kSz K : Int) ≤ K 390 ∧ (K 390 ≤ 12 → (kSz K : Int) = K 390) ∧ (12 ≤ K 390 → kSz K = 12) := by unfold kSz; omega
  have g18 : (q = -1 ∨ (0 ≤ q ∧ q < K 390)) → qS (fX11_share_18 q F D n sl) (shOut F D K n sl rr (oShare K q)) := by
    intro hq
    unfold fX11_share_18
    refine qS_call (pX7_refresh h hG hZ hr hw hi hn hn9) (fun M hM => ?_)
    obtain ⟨F', D', n', sl', rr', eM, g, w, e1, si, e11, c⟩ := hM.si
    subst eM
    dsimp only
    refine qS_chk (g.G hG hn) ?_
    unfold oShare
    by_cases e : q = -1
    · rw [if_pos e, if_pos e, e11]
      exact qS_ret ⟨F', D', n', sl', rr', rfl, g, w, e1, si⟩
    · rw [if_neg e, if_neg e]
      by_cases e2 : q < 12
      · rw [if_pos e2]
        refine qS_chk (by omega) ?_
        rw [if_pos (by omega : 0 ≤ q ∧ q < (kSz K : Int)), c q.toNat (by omega)]
        exact qS_ret ⟨F', D', n', sl', rr', rfl, g, w, e1, si⟩
      · rw [if_neg e2, if_neg (by omega : ¬ (0 ≤ q ∧ q < (kSz K : Int)))]
        exact qS_ret ⟨F', D', n', sl', rr', rfl, g, w, e1, si⟩
  unfold fX11_share
  refine qS_ite (fun e => g18 (Or.inl e)) (fun e => ?_)
  refine qS_step (pX9_has q) ?_
  rw [h.2.1]
  by_cases hq : 0 ≤ q ∧ q < K 390
  · rw [if_pos hq]; exact qS_neg (by omega) (g18 (Or.inr hq))
  · rw [if_neg hq]
    refine qS_pos rfl (qS_ret ⟨F, D, n, sl, rr, ?_, (gS.rfl' F D n sl rr).up (by omega), hw, rfl, hi⟩)
    unfold oShare
    rw [if_neg e, if_neg (by omega)]
end SR
