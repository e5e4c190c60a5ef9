/-! ===== share, reference ===== -/
def kWr (p : Nat → Int) (m q : Nat) (h : Nat → Int) (x : Nat) : Int := match m with
  | 0 => -1
  | m + 1 => if x = q then (if kCh p m q h < 3 then (kCh p m q h : Int) else -1) else kWr p m (q + 1) (kNx p q h (kCh p m q h)) x
theorem kWr_s (p : Nat → Int) (m q : Nat) (h : Nat → Int) (x : Nat) : kWr p (m + 1) q h x = if x = q then (if kCh p m q h < 3 then (kCh p m q h : Int) else -1) else kWr p m (q + 1) (kNx p q h (kCh p m q h)) x := rfl
theorem kWr_who (p : Nat → Int) (S : Nat) (h : Nat → Int) {x : Nat} (hx : x < S) : ∀ d q, q + d = x → kWr p (S - q) q (kHs p S h q) x = kWho p S h x
  | 0, q, e => by
    have : q = x := by omega
    subst this
    rw [show S - q = S - (q + 1) + 1 by omega, kWr_s, if_pos rfl]
    rfl
  | d + 1, q, e => by
    rw [show S - q = S - (q + 1) + 1 by omega, kWr_s, if_neg (by omega), ← kHs_s]
    exact kWr_who p S h hx d (q + 1) (by omega)
theorem R6_s (F : zFs) (N : Nat) (t : Nat) (a b : Int) (D : zDa) : R6 F (N + 1) t a b D = bX12_shares F (R6 F N) a b D := by
  unfold R6; rw [zfix_succ]
/-- behind a search from q on, so many learned ahead of it -/
def rSh (p : Nat → Int) (S m q : Nat) (h : Nat → Int) (many : Nat) (D D' : zDa) : Prop :=
  (∀ f, f < 3 → D' 119 f = h f) ∧ (∀ x, x < q → D' 120 x = D 120 x) ∧
  ((D 91 57 < ((many + kMx p m q h : Nat) : Int) ∧ D' 91 57 = ((many + kMx p m q h : Nat) : Int) ∧ (∀ x, x < q → D' 121 x = D 120 x) ∧ ∀ x, q ≤ x → x < S → D' 121 x = kWr p m q h x) ∨
   (((many + kMx p m q h : Nat) : Int) ≤ D 91 57 ∧ D' 91 57 = D 91 57 ∧ ∀ x, x < S → D' 121 x = D 121 x)) ∧
  zfm [119, 120, 121] [57] D D'
section SH
variable {F : zFs} {p : Nat → Int} {S : Nat}
theorem pX12_shares (hS : S ≤ 12) (hp : ∀ q, 2 ≤ p q ∧ p q ≤ 40) : ∀ m N, m < N → ∀ (q many : Nat) (h : Nat → Int) (D : zDa), q + m = S → many ≤ q → D 91 56 = (S : Int) → (∀ x, x < S → D 122 x = p x) → (∀ f, f < 3 → D 119 f = h f ∧ 0 ≤ h f ∧ h f ≤ 99) → (-1 ≤ D 91 57 ∧ D 91 57 ≤ 12) →
    qS (R6 F N 0 (q : Int) (many : Int) D) (rSh p S m q h many D) := by
  intro m
  induction m with
  | zero =>
    intro N hN q many h D hqm hmq h56 h122 hh hb
    obtain ⟨N, rfl⟩ : ∃ N', N = N' + 1 := ⟨N - 1, by omega⟩
    rw [R6_s]
    unfold bX12_shares
    have m0 : kMx p 0 q h = 0 := rfl
    rw [h56]
    refine qS_chk (by omega) ?_
    refine qS_ite (fun c1 => ?_) (fun c1 => ?_)
    · refine qS_pos (by omega) (qS_leti ?_)
      refine qloop1 (fun v D1 => ∃ i : Nat, v = (i : Int) ∧ i ≤ S ∧ (∀ x, x < i → D1 121 x = D 120 x) ∧ D1 91 57 = (many : Int) ∧ zfm [121] [57] D D1) (fun v _ => (100 - v).toNat) ?_ ⟨0, rfl, by omega, fun x hx => absurd hx (by omega), zwr_eq, (zfm.rfl' _ _ D).wf (by decide)⟩ (zfu_gt (by omega))
      intro k31 v D1 ⟨i, ev, hi, c, e57, f1⟩ ih
      subst ev
      unfold fX12_shares_31
      rw [f1.2 56 (by decide), h56]
      refine qS_ite (fun c2 => qS_chk (by omega) (qS_leti (qS_chk (by omega) (ih _ _ ⟨i + 1, by omega, by omega, fun x hx => ?_, by rw [zwr_row (by omega)]; exact e57, f1.wr (by decide) (by decide)⟩ (by omega))))) (fun c2 => ?_)
      · rw [show ((i : Int)).toNat = i by omega, zwr_at]
        by_cases e : x = i
        · rw [if_pos e, e, f1.1 120 (by decide) (by decide)]
        · rw [if_neg e]; exact c x (by omega)
      · refine qS_ret ⟨fun f hf => ?_, fun x hx => ?_, Or.inl ⟨?_, ?_, fun x hx => c x (by omega), fun x h1 h2 => absurd h1 (by omega)⟩, f1.mono (by decide) (by decide)⟩
        · rw [f1.1 119 (by decide) (by decide)]; exact (hh f hf).1
        · rw [f1.1 120 (by decide) (by decide)]
        · rw [m0]; omega
        · rw [m0]; exact e57
    · refine qS_ret ⟨fun f hf => (hh f hf).1, fun _ _ => rfl, Or.inr ⟨?_, rfl, fun _ _ => rfl⟩, zfm.rfl' _ _ D⟩
      rw [m0]; omega
  | succ m IH =>
    intro N hN q many h D hqm hmq h56 h122 hh hb
    obtain ⟨N, rfl⟩ : ∃ N', N = N' + 1 := ⟨N - 1, by omega⟩
    rw [R6_s]
    unfold bX12_shares
    have mle := kMx_le p (m + 1) q h
    have ms := kMx_s p m q h
    have pq := hp q
    have e122q : D 122 q = p q := h122 q (by omega)
    rw [h56]
    refine qS_chk (by omega) ?_
    refine qS_ite (fun c1 => ?_) (fun c1 => qS_ret ⟨fun f hf => (hh f hf).1, fun _ _ => rfl, Or.inr ⟨by omega, rfl, fun _ _ => rfl⟩, zfm.rfl' _ _ D⟩)
    refine qS_neg (by omega) ?_
    have opin : ∀ f, kOq p m q h f ≤ m + 1 := fun f => by
      unfold kOq
      split
      · have := kMx_le p m (q + 1) (kH h f (p q)); omega
      · omega
    refine qloop1 (fun v D1 => ∃ f : Nat, v = (f : Int) ∧ f ≤ 3 ∧ (∀ g, g < 3 → D1 119 g = h g) ∧ (∀ x, x < q → D1 120 x = D 120 x) ∧
        (((∀ g, g < f → ((many + kOq p m q h g : Nat) : Int) ≤ D 91 57 ∨ kOq p m q h g = 0) ∧ D1 91 57 = D 91 57 ∧ ∀ x, x < S → D1 121 x = D 121 x) ∨
         (∃ g, g < f ∧ p q ≤ h g ∧ D 91 57 < ((many + kOq p m q h g : Nat) : Int) ∧ D1 91 57 = ((many + kOq p m q h g : Nat) : Int) ∧ (∀ g', g' < f → kOq p m q h g' ≤ kOq p m q h g) ∧ (∀ g', g' < g → kOq p m q h g' < kOq p m q h g) ∧ (∀ x, x < q → D1 121 x = D 120 x) ∧ D1 121 q = (g : Int) ∧ ∀ x, q < x → x < S → D1 121 x = kWr p m (q + 1) (kH h g (p q)) x)) ∧ zfm [119, 120, 121] [57] D D1) (fun v _ => (100 - v).toNat) ?_ ⟨0, rfl, by omega, fun g hg => (hh g hg).1, fun _ _ => rfl, Or.inl ⟨fun g hg => absurd hg (by omega), rfl, fun _ _ => rfl⟩, zfm.rfl' _ _ D⟩ (zfu_gt (by omega))
    intro k60 v D1 ⟨f, ev, hf, e119, e120, hc, f1⟩ ih
    subst ev
    have b57 : -1 ≤ D1 91 57 ∧ D1 91 57 ≤ 12 := by
      rcases hc with ⟨_, e, _⟩ | ⟨g, g1, _, _, e, _⟩
      · omega
      · have := opin g; omega
    have e56 : D1 91 56 = (S : Int) := by rw [f1.2 56 (by decide)]; exact h56
    have e122 : ∀ x, x < S → D1 122 x = p x := fun x hx => by rw [f1.1 122 (by decide) (by decide)]; exact h122 x hx
    unfold fX12_shares_60
    refine qS_ite (fun c2 => qS_chk (by omega) ?_) (fun c2 => qS_chk (by omega) (qS_leti (qS_chk (by omega) ?_)))
    · have f3 : f < 3 := by omega
      have hf9 := (hh f f3).2
      rw [show ((f : Int)).toNat = f by omega, show ((q : Int)).toNat = q by omega, e119 f f3, e122 q (by omega)]
      have skip : ∀ D3 : zDa, (∀ g, g < 3 → D3 119 g = h g) → (∀ x, x < q → D3 120 x = D 120 x) →
          (((∀ g, g < f + 1 → ((many + kOq p m q h g : Nat) : Int) ≤ D 91 57 ∨ kOq p m q h g = 0) ∧ D3 91 57 = D 91 57 ∧ ∀ x, x < S → D3 121 x = D 121 x) ∨
         (∃ g, g < f + 1 ∧ p q ≤ h g ∧ D 91 57 < ((many + kOq p m q h g : Nat) : Int) ∧ D3 91 57 = ((many + kOq p m q h g : Nat) : Int) ∧ (∀ g', g' < f + 1 → kOq p m q h g' ≤ kOq p m q h g) ∧ (∀ g', g' < g → kOq p m q h g' < kOq p m q h g) ∧ (∀ x, x < q → D3 121 x = D 120 x) ∧ D3 121 q = (g : Int) ∧ ∀ x, q < x → x < S → D3 121 x = kWr p m (q + 1) (kH h g (p q)) x)) →
          zfm [119, 120, 121] [57] D D3 → qS (fX12_shares_130 F (R6 F N) k60 (q : Int) (many : Int) (f : Int) D3) (rSh p S (m + 1) q h many D) := by
        intro D3 q1 q2 q3 q4
        unfold fX12_shares_130
        exact qS_chk (by omega) (ih _ _ ⟨f + 1, by omega, by omega, q1, q2, q3, q4⟩ (by omega))
      refine qS_ite (fun c3 => ?_) (fun c3 => ?_)
      · have op0 : kOq p m q h f = 0 := by unfold kOq; rw [if_neg (by omega)]
        refine skip D1 e119 e120 ?_ f1
        rcases hc with ⟨h1, h2, h3⟩ | ⟨g, g1, g2, g3, g4, g5, g6, g7, g8, g9⟩
        · refine Or.inl ⟨fun g hg => ?_, h2, h3⟩
          by_cases e : g = f
          · rw [e]; exact Or.inr op0
          · exact h1 g (by omega)
        · refine Or.inr ⟨g, by omega, g2, g3, g4, fun g' hg' => ?_, g6, g7, g8, g9⟩
          by_cases e : g' = f
          · rw [e, op0]; exact Nat.zero_le _
          · exact g5 g' (by omega)
      · have opf : kOq p m q h f = 1 + kMx p m (q + 1) (kH h f (p q)) := by unfold kOq; rw [if_pos (by omega)]
        refine qS_chk (by omega) (qS_leti (qS_leti (qS_chk (by omega) ?_)))
        have d119 : ∀ g, g < 3 → (zwr (zwr D1 119 f (h f - p q)) 120 q (f : Int)) 119 g = kH h f (p q) g ∧ 0 ≤ kH h f (p q) g ∧ kH h f (p q) g ≤ 99 := fun g hg => by
          rw [zwr_row (by omega), zwr_at]
          by_cases e : g = f
          · rw [if_pos e, e, kH_eq]; exact ⟨rfl, by omega, by omega⟩
          · rw [if_neg e, kH_ne e]; exact ⟨e119 g hg, (hh g hg).2⟩
        have d57 : (zwr (zwr D1 119 f (h f - p q)) 120 q (f : Int)) 91 57 = D1 91 57 := by rw [zwr_row (by omega), zwr_row (by omega)]
        have d121 : (zwr (zwr D1 119 f (h f - p q)) 120 q (f : Int)) 121 = D1 121 := by rw [zwr_row (by omega), zwr_row (by omega)]
        have rc := IH N (by omega) (q + 1) (many + 1) (kH h f (p q)) (zwr (zwr D1 119 f (h f - p q)) 120 q (f : Int)) (by omega) (by omega) (by rw [zwr_row (by omega), zwr_row (by omega)]; exact e56) (fun x hx => by rw [zwr_row (by omega), zwr_row (by omega)]; exact e122 x hx) d119 (by rw [d57]; exact b57)
        have d120 : ∀ x, x ≤ q → (zwr (zwr D1 119 f (h f - p q)) 120 q (f : Int)) 120 x = if x = q then (f : Int) else D 120 x := fun x hx => by
          rw [zwr_at]
          by_cases e : x = q
          · rw [if_pos e, if_pos e]
          · rw [if_neg e, if_neg e, zwr_row (by omega)]; exact e120 x (by omega)
        have fd : zfm [119, 120, 121] [57] D (zwr (zwr D1 119 f (h f - p q)) 120 q (f : Int)) := (f1.wr (by decide) (by decide)).wr (by decide) (by decide)
        generalize zwr (zwr D1 119 f (h f - p q)) 120 q (f : Int) = D4 at *
        rw [show ((q + 1 : Nat) : Int) = (q : Int) + 1 by omega, show ((many + 1 : Nat) : Int) = (many : Int) + 1 by omega] at rc
        refine qS_call rc (fun D6 ⟨r1, r2, r3, r4⟩ => ?_)
        have e6f : D6 119 f = h f - p q := by rw [r1 f f3, kH_eq]
        have e6q : D6 122 q = p q := by rw [r4.1 122 (by decide) (by decide), fd.1 122 (by decide) (by decide)]; exact e122q
        rw [e6f, e6q]
        refine qS_chk (by omega) (qS_leti (skip _ (fun g hg => ?_) (fun x hx => ?_) ?_ ((fd.trans r4).wr (by decide) (by decide))))
        · rw [zwr_at]
          by_cases e : g = f
          · rw [if_pos e, e]; omega
          · rw [if_neg e, r1 g hg, kH_ne e]
        · rw [zwr_row (by omega), r2 x (by omega), d120 x (by omega), if_neg (by omega)]
        · rw [zwr_row (by omega), zwr_row (b := 121) (by omega)]
          rw [d57, d121] at r3
          have em : (((many + 1) + kMx p m (q + 1) (kH h f (p q)) : Nat) : Int) = ((many + kOq p m q h f : Nat) : Int) := by rw [opf]; omega
          rw [em] at r3
          rcases r3 with ⟨t1, t2, t3, t4⟩ | ⟨t1, t2, t3⟩
          · -- it is better
            have better : ∀ g', g' < f → kOq p m q h g' < kOq p m q h f := fun g' hg' => by
              rcases hc with ⟨h1, h2, _⟩ | ⟨g, g1, g2, g3, g4, g5, _⟩
              · have := h1 g' hg'
                omega
              · have := g5 g' hg'
                omega
            have imp : D 91 57 < ((many + kOq p m q h f : Nat) : Int) := by
              rcases hc with ⟨_, h2, _⟩ | ⟨g, g1, g2, g3, g4, g5, _⟩
              · omega
              · omega
            refine Or.inr ⟨f, by omega, by omega, imp, t2, fun g' hg' => ?_, fun g' hg' => better g' hg', fun x hx => ?_, ?_, fun x h1 h2 => t4 x (by omega) h2⟩
            · by_cases e : g' = f
              · rw [e]; exact Nat.le_refl _
              · exact Nat.le_of_lt (better g' (by omega))
            · rw [t3 x (by omega), d120 x (by omega), if_neg (by omega)]
            · rw [t3 q (by omega), d120 q (Nat.le_refl _), if_pos rfl]
          · rcases hc with ⟨h1, h2, h3⟩ | ⟨g, g1, g2, g3, g4, g5, g6, g7, g8, g9⟩
            · refine Or.inl ⟨fun g hg => ?_, by rw [t2]; exact h2, fun x hx => by rw [t3 x hx]; exact h3 x hx⟩
              by_cases e : g = f
              · rw [e]; exact Or.inl (by omega)
              · exact h1 g (by omega)
            · refine Or.inr ⟨g, by omega, g2, g3, by rw [t2]; exact g4, fun g' hg' => ?_, g6, fun x hx => by rw [t3 x (by omega)]; exact g7 x hx, by rw [t3 q (by omega)]; exact g8, fun x h1 h2 => by rw [t3 x h2]; exact g9 x h1 h2⟩
              by_cases e : g' = f
              · rw [e]; omega
              · exact g5 g' (by omega)
    · have : f = 3 := by omega
      subst this
      rw [show ((q : Int)).toNat = q by omega]
      have d57 : (zwr D1 120 q (-1)) 91 57 = D1 91 57 := by rw [zwr_row (by omega)]
      have d121 : (zwr D1 120 q (-1)) 121 = D1 121 := zwr_row (by omega)
      have rc := IH N (by omega) (q + 1) many h (zwr D1 120 q (-1)) (by omega) (by omega) (by rw [zwr_row (by omega)]; exact e56) (fun x hx => by rw [zwr_row (by omega)]; exact e122 x hx) (fun g hg => by rw [zwr_row (by omega)]; exact ⟨e119 g hg, (hh g hg).2⟩) (by rw [d57]; exact b57)
      have d120 : ∀ x, x ≤ q → (zwr D1 120 q (-1)) 120 x = if x = q then -1 else D 120 x := fun x hx => by
        rw [zwr_at]
        by_cases e : x = q
        · rw [if_pos e, if_pos e]
        · rw [if_neg e, if_neg e]; exact e120 x (by omega)
      have fd : zfm [119, 120, 121] [57] D (zwr D1 120 q (-1)) := f1.wr (by decide) (by decide)
      generalize zwr D1 120 q (-1) = D8 at *
      rw [show ((q + 1 : Nat) : Int) = (q : Int) + 1 by omega] at rc
      refine qS_call rc (fun D10 ⟨r1, r2, r3, r4⟩ => qS_ret ⟨r1, fun x hx => ?_, ?_, fd.trans r4⟩)
      · rw [r2 x (by omega), d120 x (by omega), if_neg (by omega)]
      · rw [d57, d121] at r3
        rcases r3 with ⟨t1, t2, t3, t4⟩ | ⟨t1, t2, t3⟩
        · -- none is better than all
          have all : ∀ g, g < 3 → kOq p m q h g < kMx p m (q + 1) h ∨ kOq p m q h g = 0 := fun g hg => by
            rcases hc with ⟨h1, h2, _⟩ | ⟨g', g1, g2, g3, g4, g5, _⟩
            · have := h1 g hg
              omega
            · have := g5 g hg
              omega
          have a0 := all 0 (by omega)
          have a1 := all 1 (by omega)
          have a2 := all 2 (by omega)
          have eM : kMx p (m + 1) q h = kMx p m (q + 1) h := by clear hc; omega
          have e3 : kCh p m q h = 3 := kCh_3 (fun g hg gg => by have := all g hg; omega)
          have d0 : D 91 57 ≤ D1 91 57 := by
            rcases hc with ⟨_, h2, _⟩ | ⟨g', g1, g2, g3, g4, _⟩ <;> omega
          refine Or.inl ⟨by rw [eM]; omega, by rw [eM]; exact t2, fun x hx => ?_, fun x h1 h2 => ?_⟩
          · rw [t3 x (by omega), d120 x (by omega), if_neg (by omega)]
          · rw [kWr_s, e3]
            by_cases e : x = q
            · rw [if_pos e, if_neg (by omega), e, t3 q (by omega), d120 q (Nat.le_refl _), if_pos rfl]
            · rw [if_neg e]
              unfold kNx
              rw [if_neg (by omega)]
              exact t4 x (by omega) h2
        · rcases hc with ⟨h1, h2, h3⟩ | ⟨g, g1, g2, g3, g4, g5, g6, g7, g8, g9⟩
          · have a0 := h1 0 (by omega)
            have a1 := h1 1 (by omega)
            have a2 := h1 2 (by omega)
            have mb : ((many + kMx p (m + 1) q h : Nat) : Int) ≤ D 91 57 := by omega
            exact Or.inr ⟨mb, by rw [t2]; exact h2, fun x hx => by rw [t3 x hx]; exact h3 x hx⟩
          · have a0 := g5 0 (by omega)
            have a1 := g5 1 (by omega)
            have a2 := g5 2 (by omega)
            have eM : kMx p (m + 1) q h = kOq p m q h g := by
              have := kOq_le p m q h g1
              omega
            have pos : 0 < kOq p m q h g := by unfold kOq; rw [if_pos g2]; omega
            have ech : kCh p m q h = g := kCh_eq g1 (fun g' hg' gg => by have := g6 g' hg'; omega) ⟨by omega, eM.symm⟩
            refine Or.inl ⟨by rw [eM]; exact g3, by rw [eM, t2]; exact g4, fun x hx => by rw [t3 x (by omega)]; exact g7 x hx, fun x h1 h2 => ?_⟩
            rw [kWr_s, ech, t3 x h2]
            by_cases e : x = q
            · rw [if_pos e, if_pos g1, e]; exact g8
            · rw [if_neg e]
              unfold kNx
              rw [if_pos g1]
              exact g9 x (by omega) h2
end SH
