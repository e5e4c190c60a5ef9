/-! ===== sharing, class ===== -/
def kCh (p : Nat → Int) (m q : Nat) (h : Nat → Int) : Nat :=
  if 0 < kMx p (m + 1) q h ∧ kOq p m q h 0 = kMx p (m + 1) q h then 0 else if 0 < kMx p (m + 1) q h ∧ kOq p m q h 1 = kMx p (m + 1) q h then 1 else if 0 < kMx p (m + 1) q h ∧ kOq p m q h 2 = kMx p (m + 1) q h then 2 else 3
def kNx (p : Nat → Int) (q : Nat) (h : Nat → Int) (f : Nat) : Nat → Int := if f < 3 then kH h f (p q) else h
def kHs (p : Nat → Int) (S : Nat) (h : Nat → Int) (q : Nat) : Nat → Int := match q with
  | 0 => h
  | q + 1 => kNx p q (kHs p S h q) (kCh p (S - (q + 1)) q (kHs p S h q))
theorem kHs_s (p : Nat → Int) (S : Nat) (h : Nat → Int) (q : Nat) : kHs p S h (q + 1) = kNx p q (kHs p S h q) (kCh p (S - (q + 1)) q (kHs p S h q)) := rfl
def kWho (p : Nat → Int) (S : Nat) (h : Nat → Int) (q : Nat) : Int := if kCh p (S - (q + 1)) q (kHs p S h q) < 3 then (kCh p (S - (q + 1)) q (kHs p S h q) : Int) else -1
theorem kCh_fit {p : Nat → Int} {m q : Nat} {h : Nat → Int} (e : kCh p m q h < 3) : p q ≤ h (kCh p m q h) ∧ 0 < kMx p (m + 1) q h ∧ kOq p m q h (kCh p m q h) = kMx p (m + 1) q h := by
  have fit : ∀ f, 0 < kMx p (m + 1) q h ∧ kOq p m q h f = kMx p (m + 1) q h → p q ≤ h f := fun f g => by
    unfold kOq at g
    by_cases c : p q ≤ h f
    · exact c
    · rw [if_neg c] at g; omega
  unfold kCh at e ⊢
  by_cases c0 : 0 < kMx p (m + 1) q h ∧ kOq p m q h 0 = kMx p (m + 1) q h
  · rw [if_pos c0]; exact ⟨fit 0 c0, c0⟩
  · rw [if_neg c0] at e ⊢
    by_cases c1 : 0 < kMx p (m + 1) q h ∧ kOq p m q h 1 = kMx p (m + 1) q h
    · rw [if_pos c1]; exact ⟨fit 1 c1, c1⟩
    · rw [if_neg c1] at e ⊢
      by_cases c2 : 0 < kMx p (m + 1) q h ∧ kOq p m q h 2 = kMx p (m + 1) q h
      · rw [if_pos c2]; exact ⟨fit 2 c2, c2⟩
      · rw [if_neg c2] at e; omega
/-- the first friend with whom as many can be learned -/
theorem kCh_eq {p : Nat → Int} {m q : Nat} {h : Nat → Int} {f : Nat} (hf : f < 3) (h1 : ∀ g, g < f → ¬ (0 < kMx p (m + 1) q h ∧ kOq p m q h g = kMx p (m + 1) q h)) (h2 : 0 < kMx p (m + 1) q h ∧ kOq p m q h f = kMx p (m + 1) q h) : kCh p m q h = f := by
  unfold kCh
  rcases (by omega : f = 0 ∨ f = 1 ∨ f = 2) with rfl | rfl | rfl
  · rw [if_pos h2]
  · rw [if_neg (h1 0 (by omega)), if_pos h2]
  · rw [if_neg (h1 0 (by omega)), if_neg (h1 1 (by omega)), if_pos h2]
theorem kCh_3 {p : Nat → Int} {m q : Nat} {h : Nat → Int} (h1 : ∀ g, g < 3 → ¬ (0 < kMx p (m + 1) q h ∧ kOq p m q h g = kMx p (m + 1) q h)) : kCh p m q h = 3 := by
  unfold kCh
  rw [if_neg (h1 0 (by omega)), if_neg (h1 1 (by omega)), if_neg (h1 2 (by omega))]
theorem kMx_nx {p : Nat → Int} {m q : Nat} {h : Nat → Int} : kMx p m (q + 1) (kNx p q h (kCh p m q h)) + (if kCh p m q h < 3 then 1 else 0) = kMx p (m + 1) q h := by
  unfold kNx
  by_cases c : kCh p m q h < 3
  · have k := kCh_fit c
    rw [if_pos c, if_pos c]
    have e := k.2.2
    unfold kOq at e
    rw [if_pos k.1] at e
    omega
  · rw [if_neg c, if_neg c, Nat.add_zero]
    have k : ∀ g, g < 3 → ¬ (0 < kMx p (m + 1) q h ∧ kOq p m q h g = kMx p (m + 1) q h) := fun g hg gg => by
      unfold kCh at c
      rcases (by omega : g = 0 ∨ g = 1 ∨ g = 2) with rfl | rfl | rfl
      · rw [if_pos gg] at c; omega
      · by_cases c0 : 0 < kMx p (m + 1) q h ∧ kOq p m q h 0 = kMx p (m + 1) q h
        · rw [if_pos c0] at c; omega
        · rw [if_neg c0, if_pos gg] at c; omega
      · by_cases c0 : 0 < kMx p (m + 1) q h ∧ kOq p m q h 0 = kMx p (m + 1) q h
        · rw [if_pos c0] at c; omega
        · by_cases c1 : 0 < kMx p (m + 1) q h ∧ kOq p m q h 1 = kMx p (m + 1) q h
          · rw [if_neg c0, if_pos c1] at c; omega
          · rw [if_neg c0, if_neg c1, if_pos gg] at c; omega
    have k0 := k 0 (by omega)
    have k1 := k 1 (by omega)
    have k2 := k 2 (by omega)
    have e := kMx_s p m q h
    omega
theorem kHs_in {p : Nat → Int} {S : Nat} {h : Nat → Int} (hp : ∀ q, 0 ≤ p q) (hh : ∀ f, f < 3 → 0 ≤ h f ∧ h f ≤ 99) : ∀ q, ∀ f, f < 3 → 0 ≤ kHs p S h q f ∧ kHs p S h q f ≤ 99
  | 0, f, hf => hh f hf
  | q + 1, f, hf => by
    have ih := kHs_in (S := S) hp hh q
    rw [kHs_s]
    unfold kNx
    by_cases c : kCh p (S - (q + 1)) q (kHs p S h q) < 3
    · rw [if_pos c]
      have k := (kCh_fit c).1
      have pq := hp q
      by_cases e : f = kCh p (S - (q + 1)) q (kHs p S h q)
      · rw [e, kH_eq]
        have := ih _ c
        omega
      · rw [kH_ne e]; exact ih f hf
    · rw [if_neg c]; exact ih f hf
/-- what a row of calls that may grow the sharer's row leaves -/
def gS (F : zFs) (D : zDa) (n sl rr : Nat) (F' : zFs) (D' : zDa) (n' sl' rr' k : Nat) : Prop :=
  (∀ a, a < n → F' a = F a) ∧ (n ≤ n' ∧ n' ≤ n + k) ∧ (rr' = rr ∨ n ≤ rr') ∧ sl' + 2 * (F rr).2.1 ≤ sl + 2 * (F' rr').2.1 ∧ ∀ a, a < n → a ≠ rr → a ∉ ([49, 50, 51, 78, 79, 80, 81, 82, 83, 85] : List Nat) → D' a = D a
section GS
variable {F F1 F2 : zFs} {D D1 D2 : zDa} {n sl rr n1 sl1 r1 n2 sl2 r2 k l : Nat}
theorem gS.rfl' (F : zFs) (D : zDa) (n sl rr : Nat) : gS F D n sl rr F D n sl rr 0 := ⟨fun _ _ => rfl, by omega, Or.inl rfl, Nat.le_refl _, fun _ _ _ _ => rfl⟩
theorem gS.trans (h1 : gS F D n sl rr F1 D1 n1 sl1 r1 k) (h2 : gS F1 D1 n1 sl1 r1 F2 D2 n2 sl2 r2 l) : gS F D n sl rr F2 D2 n2 sl2 r2 (k + l) := by
  obtain ⟨a1, a2, a3, a4, a5⟩ := h1
  obtain ⟨b1, b2, b3, b4, b5⟩ := h2
  refine ⟨fun a ha => by rw [b1 a (by omega)]; exact a1 a ha, by omega, by omega, by omega, fun a h1 h2 h3 => ?_⟩
  rw [b5 a (by omega) (by omega) h3]; exact a5 a h1 h2 h3
theorem gS.up (h1 : gS F D n sl rr F1 D1 n1 sl1 r1 k) (h : k ≤ l) : gS F D n sl rr F1 D1 n1 sl1 r1 l := ⟨h1.1, by have := h1.2.1; omega, h1.2.2⟩
theorem gS.of (g : cGrow F n sl rr F1 n1 sl1 r1) (hn : rr < n) (f : zfr [78, 83, rr, n] D D1) : gS F D n sl rr F1 D1 n1 sl1 r1 1 := by
  have fr : ∀ a, a < n → a ≠ rr → a ∉ ([49, 50, 51, 78, 79, 80, 81, 82, 83, 85] : List Nat) → D1 a = D a := fun a h1 h2 h3 => f a (fun hm => by simp at hm h3; omega)
  rcases g with ⟨rfl, rfl, rfl, rfl⟩ | ⟨rfl, rfl, sz, rfl, rfl, g1, g2⟩
  · exact ⟨fun _ _ => rfl, by omega, Or.inl rfl, Nat.le_refl _, fr⟩
  · refine ⟨fun a ha => znew_ne (by omega), by omega, Or.inr (Nat.le_refl _), ?_, fr⟩
    rw [znew_self]
    show sl + sz + 2 * (F rr).2.1 ≤ sl + 2 * sz
    omega
theorem gS.wr (h : gS F D n sl rr F1 D1 n1 sl1 r1 k) {a j : Nat} {v : Int} (ha : a ∈ ([49, 50, 51, 78, 79, 80, 81, 82, 83, 85] : List Nat)) : gS F D n sl rr F1 (zwr D1 a j v) n1 sl1 r1 k :=
  ⟨h.1, h.2.1, h.2.2.1, h.2.2.2.1, fun b h1 h2 h3 => by rw [zwr_row (fun e => h3 (by rw [e]; exact ha))]; exact h.2.2.2.2 b h1 h2 h3⟩
theorem zG_cg {F F' : zFs} (h : ∀ a, a < 126 → F' a = F a) (hG : zG F) : zG F' := by
  refine ⟨fun q hq => ?_, fun q hq => ?_⟩
  · rw [h q.1 (zgT_lt q hq)]; exact hG.1 q hq
  · rw [h q.1 (zgR_lt q hq)]; exact hG.2 q hq
theorem gS.G (h : gS F D n sl rr F1 D1 n1 sl1 r1 k) (hG : zG F) (hn : 126 ≤ n) : zG F1 ∧ 126 ≤ n1 := ⟨zG_cg (fun a ha => h.1 a (by omega)) hG, by have := h.2.1; omega⟩
end GS
theorem cSo.fr {D D' : zDa} {S : Nat} {p : Nat → Int} {c : Nat → Nat} (h : cSo D S p c) (h78 : D' 78 4 = D 78 4) (h0 : D' 80 = D 80) (h1 : D' 81 = D 81) : cSo D' S p c := by
  unfold cSo; rw [h78, h0, h1]; exact h
section MO
variable {F : zFs} {D : zDa} {n sl rr S : Nat} {p : Nat → Int} {c : Nat → Nat} {h : Nat → Int}
theorem zfr_78 {D D' : zDa} {rr n : Nat} (f : zfr [78, 83, rr, n] D D') (hr : rr = 84 ∨ 126 ≤ rr) (hn : 126 ≤ n) {a : Nat} (h : a < 126 ∧ a ≠ 84) (h1 : a ≠ 78) (h2 : a ≠ 83) : D' a = D a := f a (by simp; omega)
theorem pX7_mostOfAll (hG : zG F) (hS : cSo D S p c) (hh : cLf D h) (hw : cRr F D n rr) (hn : 126 ≤ n) (hn9 : n + 100 < 900000) :
    qS (fX7_mostOfAll F D n sl) (fun x => ∃ F' D' n' sl' rr', x = ((kMx p S 0 h : Int), (F', D', n', sl')) ∧ gS F D n sl rr F' D' n' sl' rr' 12 ∧ cRr F' D' n' rr' ∧ (∀ k, k ≠ 9 → D' 78 k = D 78 k) ∧ (∀ a, a < 126 ∧ a ≠ 84 → a ≠ 78 → a ≠ 83 → D' a = D a)) := by
  have hS12 := hS.1
  unfold fX7_mostOfAll
  refine qS_leti ?_
  rw [hS.2.1]
  have mle := kMx_le p S 0 h
  refine qloopV1 (fun v F1 D1 n1 sl1 => ∃ k r1 : Nat, v = (k : Int) ∧ k ≤ S ∧ kMx p S 0 h ≤ k ∧ gS F D n sl rr F1 D1 n1 sl1 r1 (S - k) ∧ cRr F1 D1 n1 r1 ∧ (∀ j, j ≠ 9 → D1 78 j = D 78 j) ∧ (∀ a, a < 126 ∧ a ≠ 84 → a ≠ 78 → a ≠ 83 → D1 a = D a)) (fun v => v.toNat) ?_ ⟨S, rr, rfl, Nat.le_refl _, mle, by rw [Nat.sub_self]; exact gS.rfl' F D n sl rr, hw, fun _ _ => rfl, fun _ _ _ _ => rfl⟩ (zfu_gt (by omega))
  intro k5 v F1 D1 n1 sl1 ⟨k, r1, ev, hk, hle, g1, w1, e78, ea⟩ ih
  subst ev
  unfold fX7_mostOfAll_5
  refine qS_ite (fun c1 => ?_) (fun c1 => ?_)
  · have hS1 : cSo D1 S p c := hS.fr (e78 4 (by omega)) (ea 80 (by omega) (by omega) (by omega)) (ea 81 (by omega) (by omega) (by omega))
    have hh1 : cLf D1 h := fun f hf => by rw [ea 82 (by omega) (by omega) (by omega)]; exact hh f hf
    have G1 := g1.G hG hn
    have nb := g1.2.1
    have cl := pX7_canLearn (F := F1) (n := n1) (sl := sl1) hS1 hh1 w1 (fm := 0) (many := k) (by omega) (by omega) G1.2 (by omega)
    rw [Nat.sub_zero] at cl
    refine qS_call cl (fun x ⟨a, F2, D2, n2, sl2, r2, ex, gr, w2, ha, k2, f2⟩ => ?_)
    subst ex
    have g2 := gS.of gr w1.2.2.1 f2
    have g12 := g1.trans g2
    dsimp only
    refine qS_chk (g12.G hG hn) ?_
    have ea2 : ∀ a, a < 126 ∧ a ≠ 84 → a ≠ 78 → a ≠ 83 → D2 a = D a := fun a h1 h2 h3 => by rw [zfr_78 f2 w1.2.1 G1.2 h1 h2 h3]; exact ea a h1 h2 h3
    have e782 : ∀ j, j ≠ 9 → D2 78 j = D 78 j := fun j hj => by rw [k2 j hj]; exact e78 j hj
    rcases ha with ⟨ha, hb⟩ | ⟨ha, hb⟩
    · refine qS_neg (by omega) (qS_ret ⟨F2, D2, n2, sl2, r2, ?_, g12.up (by omega), w2, e782, ea2⟩)
      rw [show kMx p S 0 h = k by omega]
    · refine qS_pos ha (qS_chk (by omega) (ih _ _ _ _ _ ⟨k - 1, r2, by omega, by omega, by omega, g12.up (by omega), w2, e782, ea2⟩ (by omega)))
  · have : k = 0 := by omega
    subst this
    refine qS_ret ⟨F1, D1, n1, sl1, r1, ?_, g1.up (by omega), w1, e78, ea⟩
    rw [show kMx p S 0 h = 0 by omega]
theorem pX7_firstFriend (hG : zG F) (hS : cSo D S p c) (hh : cLf D h) (hw : cRr F D n rr) (hn : 126 ≤ n) (hn9 : n + 100 < 900000) {q : Nat} (hq : q < S) :
    qS (fX7_firstFriend (q : Int) (kMx p (S - q) q h : Int) F D n sl) (fun x => ∃ F' D' n' sl' rr', x = ((if kCh p (S - (q + 1)) q h < 3 then (kCh p (S - (q + 1)) q h : Int) else -1), (F', D', n', sl')) ∧ gS F D n sl rr F' D' n' sl' rr' 3 ∧ cRr F' D' n' rr' ∧ cLf D' (kNx p q h (kCh p (S - (q + 1)) q h)) ∧ (∀ k, k ≠ 9 → D' 78 k = D 78 k) ∧ (∀ a, a < 126 ∧ a ≠ 84 → a ≠ 78 → a ≠ 82 → a ≠ 83 → D' a = D a)) := by
  have hS12 := hS.1
  have em : S - q = S - (q + 1) + 1 := by omega
  rw [em]
  generalize hmm : S - (q + 1) = m at *
  have mle := kMx_le p (m + 1) q h
  have pq := hS.2.2.2.1 q
  unfold fX7_firstFriend
  refine qloopV1 (fun v F1 D1 n1 sl1 => ∃ f r1 : Nat, v = (f : Int) ∧ f ≤ 3 ∧ (∀ g, g < f → ¬ (0 < kMx p (m + 1) q h ∧ kOq p m q h g = kMx p (m + 1) q h)) ∧ gS F D n sl rr F1 D1 n1 sl1 r1 f ∧ cRr F1 D1 n1 r1 ∧ cLf D1 h ∧ (∀ j, j ≠ 9 → D1 78 j = D 78 j) ∧ (∀ a, a < 126 ∧ a ≠ 84 → a ≠ 78 → a ≠ 82 → a ≠ 83 → D1 a = D a)) (fun v => (100 - v).toNat) ?_ ⟨0, rr, rfl, by omega, fun g hg => absurd hg (by omega), gS.rfl' F D n sl rr, hw, hh, fun _ _ => rfl, fun _ _ _ _ _ => rfl⟩ (zfu_gt (by omega))
  intro k2 v F1 D1 n1 sl1 ⟨f, r1, ev, hf, no, g1, w1, l1, e78, ea⟩ ih
  subst ev
  have none' : kCh p m q h = 3 → qS (some ((-1 : Int), (F1, D1, n1, sl1))) (fun x => ∃ F' D' n' sl' rr', x = ((if kCh p m q h < 3 then (kCh p m q h : Int) else -1), (F', D', n', sl')) ∧ gS F D n sl rr F' D' n' sl' rr' 3 ∧ cRr F' D' n' rr' ∧ cLf D' (kNx p q h (kCh p m q h)) ∧ (∀ k, k ≠ 9 → D' 78 k = D 78 k) ∧ (∀ a, a < 126 ∧ a ≠ 84 → a ≠ 78 → a ≠ 82 → a ≠ 83 → D' a = D a)) := by
    intro e3
    rw [e3, if_neg (by omega)]
    refine qS_ret ⟨F1, D1, n1, sl1, r1, rfl, g1.up (by omega), w1, ?_, e78, ea⟩
    unfold kNx
    rw [if_neg (by omega)]; exact l1
  unfold fX7_firstFriend_2
  refine qS_ite (fun c1 => ?_) (fun c1 => none' (kCh_3 (fun g hg => no g (by omega))))
  have f3 : f < 3 := by omega
  refine qS_ite (fun c2 => qS_chk (by omega) ?_) (fun c2 => none' (kCh_3 (fun g hg gg => by omega)))
  have l1f := l1 f f3
  have e80 : D1 80 q = p q := by rw [ea 80 (by omega) (by omega) (by omega) (by omega)]; exact hS.2.2.1 q hq
  rw [show ((q : Int)).toNat = q by omega, show ((f : Int)).toNat = f by omega, e80, l1f.1]
  have skip : ∀ (F3 : zFs) (D3 : zDa) (n3 sl3 r3 : Nat), ¬ (0 < kMx p (m + 1) q h ∧ kOq p m q h f = kMx p (m + 1) q h) → gS F D n sl rr F3 D3 n3 sl3 r3 (f + 1) → cRr F3 D3 n3 r3 → cLf D3 h → (∀ j, j ≠ 9 → D3 78 j = D 78 j) → (∀ a, a < 126 ∧ a ≠ 84 → a ≠ 78 → a ≠ 82 → a ≠ 83 → D3 a = D a) → qS (fX7_firstFriend_71 k2 (q : Int) ((kMx p (m + 1) q h : Nat) : Int) (f : Int) F3 D3 n3 sl3) (fun x => ∃ F' D' n' sl' rr', x = ((if kCh p m q h < 3 then (kCh p m q h : Int) else -1), (F', D', n', sl')) ∧ gS F D n sl rr F' D' n' sl' rr' 3 ∧ cRr F' D' n' rr' ∧ cLf D' (kNx p q h (kCh p m q h)) ∧ (∀ k, k ≠ 9 → D' 78 k = D 78 k) ∧ (∀ a, a < 126 ∧ a ≠ 84 → a ≠ 78 → a ≠ 82 → a ≠ 83 → D' a = D a)) := by
    intro F3 D3 n3 sl3 r3 hno g3 w3 l3 e783 ea3
    unfold fX7_firstFriend_71
    refine qS_chk (by omega) (ih _ _ _ _ _ ⟨f + 1, r3, by omega, by omega, fun g hg => ?_, g3, w3, l3, e783, ea3⟩ (by omega))
    by_cases e : g = f
    · rw [e]; exact hno
    · exact no g (by omega)
  refine qS_ite (fun c3 => skip F1 D1 n1 sl1 r1 (fun gg => ?_) (g1.up (by omega)) w1 l1 e78 ea) (fun c3 => ?_)
  · have := gg.2
    unfold kOq at this
    rw [if_neg (by omega)] at this
    omega
  · refine qS_chk (by omega) (qS_leti (qS_chk (by omega) ?_))
    have G1 := g1.G hG hn
    have nb := g1.2.1
    have hr1 := w1.2.1
    have hS2 : cSo (zwr D1 82 f (h f - p q)) S p c := hS.fr (by rw [zwr_row (by omega)]; exact e78 4 (by omega)) (by rw [zwr_row (by omega)]; exact ea 80 (by omega) (by omega) (by omega) (by omega)) (by rw [zwr_row (by omega)]; exact ea 81 (by omega) (by omega) (by omega) (by omega))
    have l2 : cLf (zwr D1 82 f (h f - p q)) (kH h f (p q)) := fun g hg => by
      rw [zwr_at]
      by_cases e : g = f
      · rw [if_pos e, e, kH_eq]; exact ⟨rfl, by omega, by omega⟩
      · rw [if_neg e, kH_ne e]; exact l1 g hg
    have w2 : cRr F1 (zwr D1 82 f (h f - p q)) n1 r1 := ⟨by rw [zwr_row (by omega)]; exact w1.1, w1.2⟩
    have cl := pX7_canLearn (F := F1) (n := n1) (sl := sl1) hS2 l2 w2 (fm := q + 1) (many := kMx p (m + 1) q h - 1) (by omega) (by omega) G1.2 (by omega)
    rw [hmm, show ((q + 1 : Nat) : Int) = (q : Int) + 1 by omega, show ((kMx p (m + 1) q h - 1 : Nat) : Int) = ((kMx p (m + 1) q h : Nat) : Int) - 1 by omega] at cl
    refine qS_call cl (fun x ⟨a, F2, D2, n2, sl2, r2, ex, gr, w2', ha, k2', f2⟩ => ?_)
    subst ex
    have g2 := gS.of gr w1.2.2.1 f2
    have g12 := (g1.wr (a := 82) (j := f) (v := h f - p q) (by decide)).trans g2
    dsimp only
    refine qS_chk (g12.G hG hn) ?_
    have ea2 : ∀ b, b < 126 ∧ b ≠ 84 → b ≠ 78 → b ≠ 83 → D2 b = (zwr D1 82 f (h f - p q)) b := fun b h1 h2 h3 => zfr_78 f2 hr1 G1.2 h1 h2 h3
    have ea3 : ∀ b, b < 126 ∧ b ≠ 84 → b ≠ 78 → b ≠ 82 → b ≠ 83 → D2 b = D b := fun b h1 h2 h3 h4 => by rw [ea2 b h1 h2 h4, zwr_row h3]; exact ea b h1 h2 h3 h4
    have e782 : ∀ j, j ≠ 9 → D2 78 j = D 78 j := fun j hj => by rw [k2' j hj, zwr_row (by omega)]; exact e78 j hj
    have l2' : cLf D2 (kH h f (p q)) := fun g hg => by rw [ea2 82 (by omega) (by omega) (by omega)]; exact l2 g hg
    have opf : kOq p m q h f = 1 + kMx p m (q + 1) (kH h f (p q)) := by unfold kOq; rw [if_pos (by omega)]
    have ople := kOq_le p m q h f3
    rcases ha with ⟨ha, hb⟩ | ⟨ha, hb⟩
    · have ech : kCh p m q h = f := kCh_eq f3 no ⟨by omega, by omega⟩
      refine qS_neg (by omega) (qS_ret ⟨F2, D2, n2, sl2, r2, ?_, g12.up (by omega), w2', ?_, e782, ea3⟩)
      · rw [ech, if_pos f3]
      · unfold kNx; rw [ech, if_pos f3]; exact l2'
    · refine qS_pos ha ?_
      have e82 : D2 82 f = h f - p q := by rw [(l2' f f3).1, kH_eq]
      have e80' : D2 80 q = p q := by rw [ea3 80 (by omega) (by omega) (by omega) (by omega)]; exact hS.2.2.1 q hq
      rw [e82, e80']
      refine qS_chk (by omega) (qS_leti (skip F2 _ n2 sl2 r2 (fun gg => hb (by omega)) (g12.wr (by decide)) ⟨by rw [zwr_row (by omega)]; exact w2'.1, w2'.2⟩ (fun g hg => ?_) (fun j hj => by rw [zwr_row (by omega)]; exact e782 j hj) (fun b h1 h2 h3 h4 => by rw [zwr_row h3]; exact ea3 b h1 h2 h3 h4)))
      rw [zwr_at]
      by_cases e : g = f
      · rw [if_pos e, e]; exact ⟨by omega, l1f.2⟩
      · have := l2' g hg
        rw [kH_ne e] at this
        rw [if_neg e]; exact this
end MO
