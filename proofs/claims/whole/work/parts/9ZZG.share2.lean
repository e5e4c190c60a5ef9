/-! ===== share, reference: the call ===== -/
def rShC (D : zDa) (K : Nat → Int) : Prop := D 91 57 = (kMx (kPr K) (kSz K) 0 (kFh K) : Int) ∧ ∀ q, q < kSz K → D 121 q = kWho (kPr K) (kSz K) (kFh K) q
def rShI (D : zDa) (K : Nat → Int) : Prop := D 91 58 ≤ D 91 1 ∧ (D 91 58 = D 91 1 → rShC D K)
section RH
variable {F : zFs} {D : zDa} {K : Nat → Int}
theorem pr_share_132 (h : rShC D K) {q : Int} (hq : q = -1 ∨ (0 ≤ q ∧ q < (kSz K : Int))) : qS (fX12_share_132 F q D) (fun x => x = (oShare K q, D)) := by
  have hs : kSz K ≤ 12 := by unfold kSz; omega
  unfold fX12_share_132 oShare
  by_cases e : q = -1
  · rw [if_pos e, if_pos e, h.1]; exact qS_ret rfl
  · rw [if_neg e, if_neg e, if_pos (by omega : 0 ≤ q ∧ q < (kSz K : Int))]
    refine qS_chk (by omega) (qS_ret ?_)
    rw [h.2 q.toNat (by omega)]
theorem pr_share (hK : D 93 = K) (hk : kOk K) (hP : kPOk K) (hi : rShI D K) (q : Int) : qS (fX12_share F q D) (fun x => x.1 = oShare K q ∧ rShI x.2 K ∧ zfm [102, 119, 120, 121, 122] [18, 19, 20, 56, 57, 58] D x.2) := by
  have h0 := hk.1
  have hfh := hk.2.2.2.2.1
  have hs : kSz K ≤ 12 ∧ (kSz K : Int) ≤ K 390 := by unfold kSz; omega
  have hsz : min (12 : Int) (K 390) = (kSz K : Int) := by unfold kSz; omega
  unfold fX12_share
  have eq : fX12_questions F D = some (K 390, D) := by unfold fX12_questions; rw [hK]
  refine qS_step eq ?_
  dsimp only
  rw [pLess, hsz]
  refine qS_step rfl (qS_leti ?_)
  have K5 : (zwr D 91 56 (kSz K : Int)) 93 = K := by rw [zwr_row (by omega)]; exact hK
  have e56 : (zwr D 91 56 (kSz K : Int)) 91 56 = (kSz K : Int) := zwr_eq
  have e57 : ∀ k, k ≠ 56 → (zwr D 91 56 (kSz K : Int)) 91 k = D 91 k := fun k hk => zwr_off (Or.inr hk)
  have e121 : ∀ a, a ≠ 91 → (zwr D 91 56 (kSz K : Int)) a = D a := fun a ha => zwr_row ha
  have f5 : zfm [102, 119, 120, 121, 122] [18, 19, 20, 56, 57, 58] D (zwr D 91 56 (kSz K : Int)) := (zfm.rfl' _ _ D).wf (by decide)
  generalize zwr D 91 56 (kSz K : Int) = D5 at *
  have i5 : rShI D5 K := by
    unfold rShI rShC
    rw [e57 58 (by omega), e57 1 (by omega), e57 57 (by omega), e121 121 (by omega)]; exact hi
  have g34 : (q = -1 ∨ (0 ≤ q ∧ q < (kSz K : Int))) → qS (fX12_share_34 F q D5) (fun x => x.1 = oShare K q ∧ rShI x.2 K ∧ zfm [102, 119, 120, 121, 122] [18, 19, 20, 56, 57, 58] D x.2) := by
    intro hq
    unfold fX12_share_34
    refine qS_ite (fun e => qS_mono (pr_share_132 (i5.2 e) hq) (fun x hx => by subst hx; exact ⟨rfl, i5, f5⟩)) (fun e => qS_leti ?_)
    have s58 : (zwr D5 91 58 (D5 91 1)) 91 58 = D 91 1 := by rw [zwr_eq]; exact e57 1 (by omega)
    have f6 : zfm [102, 119, 120, 121, 122] [18, 19, 20, 56, 57, 58] D (zwr D5 91 58 (D5 91 1)) := f5.wf (by decide)
    have e56' : (zwr D5 91 58 (D5 91 1)) 91 56 = (kSz K : Int) := by rw [zwr_off (Or.inr (by omega))]; exact e56
    generalize zwr D5 91 58 (D5 91 1) = D6 at *
    refine qloop1 (fun v D1 => ∃ x : Nat, v = (x : Int) ∧ x ≤ kSz K ∧ (∀ y, y < x → D1 122 y = kPr K y) ∧ D1 91 58 = D 91 1 ∧ D1 91 56 = (kSz K : Int) ∧ zfm [102, 119, 120, 121, 122] [18, 19, 20, 56, 57, 58] D D1) (fun v _ => (100 - v).toNat) ?_ ⟨0, rfl, by omega, fun y hy => absurd hy (by omega), s58, e56', f6⟩ (zfu_gt (by omega))
    intro k55 v D1 ⟨x, ev, hx, c122, c58, c56, f1⟩ ih
    subst ev
    have K1 : D1 93 = K := by rw [f1.1 93 (by decide) (by decide)]; exact hK
    unfold fX12_share_55
    rw [c56]
    refine qS_ite (fun c1 => ?_) (fun c1 => ?_)
    · have hxn : (x : Int) < K 390 := by omega
      refine qS_call (pX12_takesOf K1 hk hP (q := x) hxn (l := 1) (h := 0) (d := 0) (by omega) (by omega) (by omega)) (fun y ⟨hy, f2⟩ => ?_)
      obtain ⟨y1, D2⟩ := y
      dsimp only at hy f2 ⊢
      have K2 : D2 93 = K := by rw [f2.1 93 (by decide) (by decide)]; exact K1
      refine qS_call (pX12_takesOf K2 hk hP (q := x) hxn (l := 2) (h := 0) (d := 0) (by omega) (by omega) (by omega)) (fun z ⟨hz, f3⟩ => ?_)
      obtain ⟨z1, D3⟩ := z
      dsimp only at hz f3 ⊢
      have pin := kPr_in K x
      have ep : y1 + z1 = kPr K x := by rw [hy, hz]; rfl
      rw [ep, show ((x : Int)).toNat = x by omega]
      have f13 : zfm [102, 119, 120, 121, 122] [18, 19, 20, 56, 57, 58] D D3 := (f1.trans (f2.mono (by decide) (by decide))).trans (f3.mono (by decide) (by decide))
      refine qS_chk (by omega) (qS_leti (qS_chk (by omega) (ih _ _ ⟨x + 1, by omega, by omega, fun y hy => ?_, ?_, ?_, f13.wr (by decide) (by decide)⟩ (by omega))))
      · rw [zwr_at]
        by_cases e : y = x
        · rw [if_pos e, e]
        · rw [if_neg e, f3.1 122 (by decide) (by decide), f2.1 122 (by decide) (by decide)]; exact c122 y (by omega)
      · rw [zwr_row (by omega), f3.2 58 (by decide), f2.2 58 (by decide)]; exact c58
      · rw [zwr_row (by omega), f3.2 56 (by decide), f2.2 56 (by decide)]; exact c56
    · have ex : x = kSz K := by omega
      subst ex
      refine qloop1 (fun v D2 => ∃ f : Nat, v = (f : Int) ∧ f ≤ 3 ∧ (∀ g, g < f → D2 119 g = kFh K g) ∧ zfm [119] [] D1 D2) (fun v _ => (100 - v).toNat) ?_ ⟨0, rfl, by omega, fun g hg => absurd hg (by omega), zfm.rfl' _ _ D1⟩ (zfu_gt (by omega))
      intro k94 v D2 ⟨f, ev, hf, c119, f2⟩ ih2
      subst ev
      unfold fX12_share_94
      have K2 : D2 93 = K := by rw [f2.1 93 (by decide) (by decide)]; exact K1
      refine qS_ite (fun c2 => qS_chk (by omega) (qS_leti (qS_chk (by omega) (ih2 _ _ ⟨f + 1, by omega, by omega, fun g hg => ?_, f2.wr (by decide) (by decide)⟩ (by omega))))) (fun c2 => qS_leti ?_)
      · rw [show ((f : Int)).toNat = f by omega, show (347 + (f : Int)).toNat = 347 + f by omega, K2, zwr_at]
        by_cases e : g = f
        · rw [if_pos e, e]; rfl
        · rw [if_neg e]; exact c119 g (by omega)
      · have f12 : zfm [102, 119, 120, 121, 122] [18, 19, 20, 56, 57, 58] D (zwr D2 91 57 (-1)) := (f1.trans (f2.mono (by decide) (by decide))).wf (by decide)
        have a56 : (zwr D2 91 57 (-1)) 91 56 = (kSz K : Int) := by rw [zwr_off (Or.inr (by omega)), f2.2 56 (by decide)]; exact c56
        have a58 : (zwr D2 91 57 (-1)) 91 58 = D 91 1 := by rw [zwr_off (Or.inr (by omega)), f2.2 58 (by decide)]; exact c58
        have a57 : (zwr D2 91 57 (-1)) 91 57 = -1 := zwr_eq
        have a122 : ∀ y, y < kSz K → (zwr D2 91 57 (-1)) 122 y = kPr K y := fun y hy => by rw [zwr_row (by omega), f2.1 122 (by decide) (by decide)]; exact c122 y hy
        have a119 : ∀ g, g < 3 → (zwr D2 91 57 (-1)) 119 g = kFh K g ∧ 0 ≤ kFh K g ∧ kFh K g ≤ 99 := fun g hg => by rw [zwr_row (by omega)]; exact ⟨c119 g (by omega), hfh g hg⟩
        generalize zwr D2 91 57 (-1) = D3 at *
        unfold fX12_shares
        refine qS_call (pX12_shares (F := F) hs.1 (kPr_in K) (kSz K) 40 (by omega) 0 0 (kFh K) D3 (by omega) (by omega) a56 a122 a119 (by omega)) (fun D4 ⟨r1, r2, r3, r4⟩ => ?_)
        have C4 : rShC D4 K := by
          rcases r3 with ⟨t1, t2, t3, t4⟩ | ⟨t1, t2, t3⟩
          · refine ⟨by rw [t2, Nat.zero_add], fun y hy => ?_⟩
            rw [t4 y (Nat.zero_le _) hy]
            exact kWr_who (kPr K) (kSz K) (kFh K) hy y 0 (by omega)
          · omega
        have f14 : zfm [102, 119, 120, 121, 122] [18, 19, 20, 56, 57, 58] D D4 := f12.trans (r4.mono (by decide) (by decide))
        have i4 : rShI D4 K := ⟨by rw [r4.2 58 (by decide), a58, f14.2 1 (by decide)]; exact Int.le_refl _, fun _ => C4⟩
        exact qS_mono (pr_share_132 C4 hq) (fun x hx => by subst hx; exact ⟨rfl, i4, f14⟩)
  by_cases e : q = -1
  · rw [if_pos e]; exact g34 (Or.inl e)
  · rw [if_neg e, e56]
    refine qS_chk (by omega) ?_
    by_cases hq : 0 ≤ q ∧ q < (kSz K : Int)
    · exact qS_step (lies_t (by omega)) (qS_neg (by omega) (g34 (Or.inr hq)))
    · refine qS_step (lies_f (by omega)) (qS_pos rfl (qS_ret ⟨?_, i5, f5⟩))
      unfold oShare
      rw [if_neg e, if_neg hq]
end RH
