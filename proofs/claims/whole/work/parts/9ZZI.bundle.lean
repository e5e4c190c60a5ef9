/-! ===== all that holds between two calls ===== -/
theorem kMx_cp {p p' : Nat → Int} : ∀ m q h, (∀ x, q ≤ x → x < q + m → p' x = p x) → kMx p' m q h = kMx p m q h
  | 0, _, _, _ => rfl
  | m + 1, q, h, e => by
    have ih := fun h => kMx_cp m (q + 1) h (fun x h1 h2 => e x (by omega) (by omega))
    rw [kMx_s, kMx_s]
    unfold kOq
    rw [e q (Nat.le_refl _) (by omega), ih, ih, ih, ih]
theorem kOq_cp {p p' : Nat → Int} {m q : Nat} (h : Nat → Int) (e : ∀ x, q ≤ x → x < q + (m + 1) → p' x = p x) (f : Nat) : kOq p' m q h f = kOq p m q h f := by
  unfold kOq
  rw [e q (Nat.le_refl _) (by omega), kMx_cp m (q + 1) _ (fun x h1 h2 => e x (by omega) (by omega))]
theorem kCh_cp {p p' : Nat → Int} {m q : Nat} (h : Nat → Int) (e : ∀ x, q ≤ x → x < q + (m + 1) → p' x = p x) : kCh p' m q h = kCh p m q h := by
  unfold kCh
  rw [kMx_cp (m + 1) q h e, kOq_cp h e, kOq_cp h e, kOq_cp h e]
theorem kHs_cp {p p' : Nat → Int} {S : Nat} (h : Nat → Int) (e : ∀ x, x < S → p' x = p x) : ∀ q, q ≤ S → kHs p' S h q = kHs p S h q
  | 0, _ => rfl
  | q + 1, hq => by
    rw [kHs_s, kHs_s, kHs_cp h e q (by omega), kCh_cp (m := S - (q + 1)) _ (fun x h1 h2 => e x (by omega))]
    unfold kNx
    rw [e q (by omega)]
theorem kWho_cp {p p' : Nat → Int} {S : Nat} (h : Nat → Int) (e : ∀ x, x < S → p' x = p x) {q : Nat} (hq : q < S) : kWho p' S h q = kWho p S h q := by
  unfold kWho
  rw [kHs_cp h e q (by omega), kCh_cp (m := S - (q + 1)) _ (fun x h1 h2 => e x (by omega))]
theorem cSc.keep {D D' : zDa} {K K' : Nat → Int} (h : cSc D K) (h78 : D' 78 = D 78) (h79 : D' 79 = D 79) (h85 : D' 85 = D 85) (v : vI D D' K K') : cSc D' K' := by
  obtain ⟨c1, c2⟩ := h
  unfold cSc
  rw [h78, h79, h85]
  rcases v.1 with ⟨v1, ep⟩ | v1
  · refine ⟨by omega, fun e => ?_⟩
    have es : kSz K' = kSz K := by unfold kSz; rw [ep.1]
    have hs : kSz K ≤ 12 := by unfold kSz; omega
    have epr : ∀ x, x < kSz K → kPr K' x = kPr K x := fun x hx => by unfold kPr; rw [kTakes_cg ep (by omega), kTakes_cg ep (by omega)]
    have c := c2 (by omega)
    rw [es]
    refine ⟨by rw [kMx_cp (kSz K) 0 _ (fun x _ h2 => epr x (by omega))]; exact c.1, fun q hq => ?_⟩
    rw [kWho_cp _ epr hq]; exact c.2 q hq
  · exact ⟨by omega, fun e => by omega⟩
section BU
variable {F F' : zFs} {D D' : zDa} {n sl n' sl' : Nat} {Z : Nat → Prop} {K K' : Nat → Int} {im im' : Nat → Option (Nat → Int)} {tp tp' : Nat → Int} {tl tl' : Int} {ms ms' : Nat → Int} {c r rr : Nat}
theorem cA.up (h : cA F D Z K im tp tl ms c) (hc : c < 1000) : cA F D Z K im tp tl ms (c + 1) := by
  obtain ⟨h1, h2, h3, ⟨m0, m1, m2, m3, m4, m5, m6⟩, h5, h6, h7, h8⟩ := h
  refine ⟨h1, h2, h3, ⟨m0, m1, m2, m3, m4, m5, fun k k1 k6 => by have := m6 k k1 k6; omega⟩, fun s hs => by have := h5 s hs; omega, by omega, h7, h8⟩
theorem rA.up (h : rA D K im tp tl ms c) (hc : c < 1000) : rA D K im tp tl ms (c + 1) := by
  obtain ⟨h1, h2, h3, ⟨m0, m1, m2, m3, m4, m5, m6⟩, h5, h6⟩ := h
  exact ⟨h1, h2, h3, ⟨m0, m1, m2, m3, m4, m5, fun k k1 k6 => by have := m6 k k1 k6; omega⟩, by omega, by omega⟩
theorem cA.grow (h : cA F D Z K im tp tl ms c) (hF : ∀ a, Z a → F' a = F a) (hG : zG F') (lo : ∀ a, a < 42 → D' a = D a) (hz : ∀ a, Z a → D' a = D a) : cA F' D' Z K im tp tl ms c := by
  obtain ⟨h1, h2, h3, h4, h5, h6, h7, h8⟩ := h
  refine ⟨h1.fr hF hz (fun _ h => h) (fun a _ hb => lo a (by omega)), fun k hk => ?_, ?_, ?_, ?_, h6, hG, h8⟩
  · obtain ⟨q1, q2⟩ := h2 k hk
    rw [lo 13 (by omega), lo 38 (by omega)]
    refine ⟨q1, ?_⟩
    rcases q2 with q2 | ⟨q2, Kk, e, q3⟩
    · exact Or.inl q2
    · exact Or.inr ⟨q2, Kk, e, q3.fr hF hz (fun _ h => h) (fun a _ hb => lo a (by omega))⟩
  · rw [lo 0 (by omega), lo 39 (by omega)]; exact h3
  · rw [lo 0 (by omega), lo 40 (by omega), lo 41 (by omega)]; exact h4
  · intro s hs
    have := h5 s hs
    simp only [List.mem_cons, List.not_mem_nil, or_false] at hs
    rw [lo s (by omega)]; exact this
/-- the class's side -/
def CB (F : zFs) (D : zDa) (n sl : Nat) (Z : Nat → Prop) (K : Nat → Int) (im : Nat → Option (Nat → Int)) (tp : Nat → Int) (tl : Int) (ms : Nat → Int) (c r rr : Nat) : Prop :=
  cA F D Z K im tp tl ms c ∧ cLot D ∧ (∀ a, Z a → a < n) ∧ 126 ≤ n ∧ cDi D K ∧ cRw F D Z n r ∧ cPn F D K r ∧ cRr F D n rr ∧ ¬ Z rr ∧ r ≠ rr ∧ cSc D K ∧ n ≤ 126 + 70 * c ∧ sl ≤ 172044 + 600 * c + 2 * (F r).2.1 + 2 * (F rr).2.1
/-- the reference's side -/
def RB (D : zDa) (K : Nat → Int) (im : Nat → Option (Nat → Int)) (tp : Nat → Int) (tl : Int) (ms : Nat → Int) (c : Nat) : Prop :=
  rA D K im tp tl ms c ∧ rWs D ∧ rSi D K ∧ rShI D K
theorem CB.Z1 (h : CB F D n sl Z K im tp tl ms c r rr) : ∀ a, Z a → 126 ≤ a ∧ a < n := fun a ha => ⟨h.1.2.2.2.2.2.2.2 a ha, h.2.2.1 a ha⟩
theorem CB.G (h : CB F D n sl Z K im tp tl ms c r rr) : zG F := h.1.2.2.2.2.2.2.1
/-- a call that makes no row -/
theorem CB.chg (h : CB F D n sl Z K im tp tl ms c r rr) (hA : cA F D' Z K' im' tp' tl' ms' (c + 1)) (hrow : ∀ a, 53 ≤ a → a < 86 → (a < 73 ∨ 77 < a) → a ≠ 54 → a ≠ 55 → a ≠ 56 → a ≠ 57 → a ≠ 58 → a ≠ 59 → D' a = D a) (hhi : ∀ a, 126 ≤ a → D' a = D a) (hD : cDi D' K') (v : vI D D' K K') : CB F D' n sl Z K' im' tp' tl' ms' (c + 1) r rr := by
  obtain ⟨a1, a2, a3, a4, a5, a6, a7, a8, a9, a10, a11, a12, a13⟩ := h
  have hk := a1.1.1
  have e60 : ∀ a, 60 ≤ a → a ≤ 70 → D' a = D a := fun a h1 h2 => hrow a (by omega) (by omega) (by omega) (by omega) (by omega) (by omega) (by omega) (by omega) (by omega)
  have er : D' r = D r := by
    rcases a6.2.1 with e | e
    · rw [e]; exact e60 66 (by omega) (by omega)
    · exact hhi r e
  have e78 : ∀ a, 78 ≤ a → a ≤ 85 → D' a = D a := fun a h1 h2 => hrow a (by omega) (by omega) (by omega) (by omega) (by omega) (by omega) (by omega) (by omega) (by omega)
  refine ⟨hA, a2.fr (hrow 53 (by omega) (by omega) (by omega) (by omega) (by omega) (by omega) (by omega) (by omega) (by omega)), a3, a4, hD, ⟨by rw [e60 60 (by omega) (by omega)]; exact a6.1, a6.2⟩, a7.keep hk (fun a h1 h2 _ => e60 a h1 h2) er rfl v, ⟨by rw [e78 78 (by omega) (by omega)]; exact a8.1, a8.2⟩, a9, a10, a11.keep (e78 78 (by omega) (by omega)) (e78 79 (by omega) (by omega)) (e78 85 (by omega) (by omega)) v, by omega, by omega⟩
/-- a call that changes the state -/
theorem CB.set (h : CB F D n sl Z K im tp tl ms c r rr) (hA : cA F D' Z K' im' tp' tl' ms' (c + 1)) (f : fC D D') (v : vI D D' K K') : CB F D' n sl Z K' im' tp' tl' ms' (c + 1) r rr :=
  h.chg hA (fun a h1 _ _ _ _ _ _ _ _ => f a (by omega)) (fun a ha => f a (by omega)) (h.2.2.2.2.1.keep h.1.1.1 (fun a h1 _ => f a (by omega)) v.2) v
/-- a call that asks -/
theorem CB.ask (h : CB F D n sl Z K im tp tl ms c r rr) (hc : c < 1000) {as : List Nat} (f : zfr as D D') (ha : ∀ a ∈ as, a ∈ ([49, 50, 51, 52, 54, 55, 56, 57, 58, 59, 87, 88, 89, 90] : List Nat)) : CB F D' n sl Z K im tp tl ms (c + 1) r rr := by
  have g : ∀ a, a ∉ ([49, 50, 51, 52, 54, 55, 56, 57, 58, 59, 87, 88, 89, 90] : List Nat) → D' a = D a := fun a hn => f a (fun hm => hn (ha a hm))
  have e1 : D' 1 = D 1 := g 1 (by decide)
  refine h.chg ((h.1.scr f (fun a hm => by have := ha a hm; simp at this; omega)).up hc) (fun a h1 h2 h3 h4 h5 h6 h7 h8 h9 => g a (by simp; omega)) (fun a h1 => g a (by simp; omega)) ?_ (vI.same e1)
  exact h.2.2.2.2.1.keep h.1.1.1 (fun a h1 h2 => g a (by simp; omega)) (vI.same (K := K) e1).2
/-- a call that asks the diary -/
theorem CB.day (h : CB F D n sl Z K im tp tl ms c r rr) (hc : c < 1000) (f : zfr [49, 50, 51, 73, 74, 75, 76, 77] D D') (hd : cDi D' K) : CB F D' n sl Z K im tp tl ms (c + 1) r rr := by
  have e1 : D' 1 = D 1 := f 1 (by decide)
  exact h.chg ((h.1.scr f (by decide)).up hc) (fun a h1 h2 h3 _ _ _ _ _ _ => f a (by simp; omega)) (fun a h1 => f a (by simp; omega)) hd (vI.same e1)
/-- a call that plans -/
theorem CB.plan (h : CB F D n sl Z K im tp tl ms c r rr) (hc : c < 1000) {ans : Int} {x : Int × zM} (o : cOut F D Z K n sl r ans x) : ∃ F' D' n' sl' r', x = (ans, (F', D', n', sl')) ∧ zG F' ∧ 126 ≤ n' ∧ CB F' D' n' sl' Z K im tp tl ms (c + 1) r' rr ∧ ∀ a, 91 ≤ a → a < 126 → D' a = D a := by
  obtain ⟨F', D', n', sl', r', ex, g, pn, w', f⟩ := o
  have hG := h.G
  have hZ := h.Z1
  obtain ⟨a1, a2, a3, a4, a5, a6, a7, a8, a9, a10, a11, a12, a13⟩ := h
  have G' := g.G hG a4
  have hr := a6.2.1
  have hrn := a6.2.2.1
  have fa : ∀ a, a ≠ r → a ≠ n → a ∉ ([49, 50, 51, 54, 55, 58, 60, 61, 62, 63, 64, 65, 67, 68, 69, 70, 71, 72] : List Nat) → D' a = D a := fun a h1 h2 h3 => f a (fun hm => by simp at hm h3; omega)
  have hFrr : F' rr = F rr := g.F rr (by have := a8.2.2.1; omega)
  have zr : ∀ a, Z a → D' a = D a := fun a ha => fa a (fun e => a6.2.2.2.1 (by rw [← e]; exact ha)) (by have := hZ a ha; omega) (by have := hZ a ha; simp; omega)
  refine ⟨F', D', n', sl', r', ex, G'.1, G'.2, ⟨(a1.grow (fun a ha => g.F a (by have := hZ a ha; omega)) G'.1 (fun a ha => fa a (by omega) (by omega) (by simp; omega)) zr).up hc, a2.fr (fa 53 (by omega) (by omega) (by decide)), ?_, G'.2, ?_, w', pn, ?_, a9, ?_, ?_, ?_, ?_⟩, fun a h1 h2 => fa a (by omega) (by omega) (by simp; omega)⟩
  · intro a ha
    have := a3 a ha
    rcases g with ⟨_, e, _⟩ | ⟨_, e, _⟩ <;> omega
  · exact a5.keep a1.1.1 (fun a h1 h2 => fa a (by omega) (by omega) (by simp; omega)) (vI.same (K := K) (fa 1 (by omega) (by omega) (by decide))).2
  · refine ⟨by rw [fa 78 (by omega) (by omega) (by decide)]; exact a8.1, a8.2.1, ?_, by rw [hFrr]; exact a8.2.2.2⟩
    have := a8.2.2.1
    rcases g with ⟨_, e, _⟩ | ⟨_, e, _⟩ <;> omega
  · have := a8.2.2.1
    rcases g with ⟨_, _, _, e⟩ | ⟨e, _⟩ <;> omega
  · have e1 := fa 1 (by omega) (by omega) (by decide)
    exact a11.keep (fa 78 (by omega) (by omega) (by decide)) (fa 79 (by omega) (by omega) (by decide)) (fa 85 (by omega) (by omega) (by decide)) (vI.same e1)
  · rcases g with ⟨_, e, _⟩ | ⟨_, e, _⟩ <;> omega
  · rw [hFrr]
    rcases g with ⟨rfl, e, e2, rfl⟩ | ⟨rfl, e, sz, rfl, e2, g1, g2⟩
    · omega
    · rw [znew_self]
      show sl' ≤ _
      dsimp only
      omega
/-- a call that shares -/
theorem CB.shr (h : CB F D n sl Z K im tp tl ms c r rr) (hc : c < 1000) {ans : Int} {x : Int × zM} (o : shOut F D K n sl rr ans x) : ∃ F' D' n' sl' rr', x = (ans, (F', D', n', sl')) ∧ zG F' ∧ 126 ≤ n' ∧ CB F' D' n' sl' Z K im tp tl ms (c + 1) r rr' ∧ ∀ a, 91 ≤ a → a < 126 → D' a = D a := by
  obtain ⟨F', D', n', sl', rr', ex, g, w', e1, sc⟩ := o
  have hG := h.G
  have hZ := h.Z1
  obtain ⟨a1, a2, a3, a4, a5, a6, a7, a8, a9, a10, a11, a12, a13⟩ := h
  have G' := g.G hG a4
  obtain ⟨g1, g2, g3, g4, g5⟩ := g
  have hr := a6.2.1
  have hrn := a6.2.2.1
  have hrr := a8.2.1
  have hrrn := a8.2.2.1
  have hFr : F' r = F r := g1 r hrn
  have fa : ∀ a, a < n → a ≠ rr → a ∉ ([49, 50, 51, 78, 79, 80, 81, 82, 83, 85] : List Nat) → D' a = D a := g5
  have zr : ∀ a, Z a → D' a = D a := fun a ha => fa a (hZ a ha).2 (fun e => a9 (by rw [← e]; exact ha)) (by have := hZ a ha; simp; omega)
  have v : vI D D' K K := vI.same e1
  refine ⟨F', D', n', sl', rr', ex, G'.1, G'.2, ⟨(a1.grow (fun a ha => g1 a (hZ a ha).2) G'.1 (fun a ha => fa a (by omega) (by omega) (by simp; omega)) zr).up hc, a2.fr (fa 53 (by omega) (by omega) (by decide)), fun a ha => by have := a3 a ha; omega, G'.2, ?_, ?_, ?_, w', ?_, by omega, sc, by omega, ?_⟩, fun a h1 h2 => fa a (by omega) (by omega) (by simp; omega)⟩
  · exact a5.keep a1.1.1 (fun a h1 h2 => fa a (by omega) (by omega) (by simp; omega)) v.2
  · exact ⟨by rw [fa 60 (by omega) (by omega) (by decide)]; exact a6.1, a6.2.1, by omega, a6.2.2.2.1, by rw [hFr]; exact a6.2.2.2.2.1, by rw [hFr]; exact a6.2.2.2.2.2⟩
  · exact a7.keep a1.1.1 (fun a h1 h2 h3 => fa a (by omega) (by omega) (by simp; omega)) (fa r hrn a10 (by simp; omega)) hFr v
  · intro hz
    have := hZ _ hz
    rcases g3 with e | e
    · exact a9 (by rw [← e]; exact hz)
    · omega
  · rw [hFr]; omega
/-- rows of the reference don't count for the class -/
theorem CB.fr (h : CB F D n sl Z K im tp tl ms c r rr) (e : ∀ a, a < 91 ∨ 126 ≤ a → D' a = D a) : CB F D' n sl Z K im tp tl ms c r rr := by
  have hZ := h.Z1
  obtain ⟨a1, a2, a3, a4, a5, a6, a7, a8, a9, a10, a11, a12, a13⟩ := h
  have v : vI D D' K K := vI.same (e 1 (by omega))
  have hr := a6.2.1
  exact ⟨a1.grow (fun _ _ => rfl) a1.2.2.2.2.2.2.1 (fun a ha => e a (by omega)) (fun a ha => e a (by have := hZ a ha; omega)), a2.fr (e 53 (by omega)), a3, a4, a5.keep a1.1.1 (fun a _ _ => e a (by omega)) v.2, ⟨by rw [e 60 (by omega)]; exact a6.1, a6.2⟩, a7.keep a1.1.1 (fun a _ _ _ => e a (by omega)) (e r (by omega)) rfl v, ⟨by rw [e 78 (by omega)]; exact a8.1, a8.2⟩, a9, a10, a11.keep (e 78 (by omega)) (e 79 (by omega)) (e 85 (by omega)) v, a12, a13⟩
theorem RB.fr (h : RB D K im tp tl ms c) (e : ∀ a, 91 ≤ a → a < 126 → D' a = D a) : RB D' K im tp tl ms c := by
  obtain ⟨h1, h2, h3, h4⟩ := h
  refine ⟨?_, ?_, ?_, ?_⟩
  · unfold rA
    rw [e 91 (by omega) (by omega), e 92 (by omega) (by omega), e 93 (by omega) (by omega), e 94 (by omega) (by omega), e 95 (by omega) (by omega), e 97 (by omega) (by omega)]; exact h1
  · unfold rWs; rw [e 96 (by omega) (by omega)]; exact h2
  · unfold rSi rSc rCo rLe rPw; rw [e 91 (by omega) (by omega), e 109 (by omega) (by omega), e 110 (by omega) (by omega), e 111 (by omega) (by omega)]; exact h3
  · unfold rShI rShC; rw [e 91 (by omega) (by omega), e 121 (by omega) (by omega)]; exact h4
/-- a call of the reference that changes the state -/
theorem RB.set (h : RB D K im tp tl ms c) (hA : rA D' K' im' tp' tl' ms' (c + 1)) {as ks : List Nat} (f : zfm as ks D D') (ha : ∀ a ∈ ([96, 109, 110, 111, 121] : List Nat), a ∉ as) (hks : ∀ k ∈ ([34, 35, 57, 58] : List Nat), k ∉ ks) (v : (K' = K ∧ D 91 1 ≤ D' 91 1) ∨ D 91 1 < D' 91 1) : RB D' K' im' tp' tl' ms' (c + 1) := by
  obtain ⟨h1, h2, h3, h4⟩ := h
  have ea : ∀ a ∈ ([96, 109, 110, 111, 121] : List Nat), D' a = D a := fun a hm => f.1 a (by simp at hm; omega) (ha a hm)
  have ek : ∀ k ∈ ([34, 35, 57, 58] : List Nat), D' 91 k = D 91 k := fun k hm => f.2 k (hks k hm)
  refine ⟨hA, by unfold rWs; rw [ea 96 (by decide)]; exact h2, ?_, ?_⟩
  · unfold rSi
    rw [ek 35 (by decide)]
    refine ⟨by have := h3.1; omega, fun e => ?_⟩
    have := h3.1
    rcases v with ⟨v1, v2⟩ | v
    · subst v1
      exact (h3.2 (by omega)).fr (ea 111 (by decide)) (ea 109 (by decide)) (ea 110 (by decide)) (ek 34 (by decide))
    · omega
  · unfold rShI
    rw [ek 58 (by decide)]
    refine ⟨by have := h4.1; omega, fun e => ?_⟩
    have := h4.1
    rcases v with ⟨v1, v2⟩ | v
    · subst v1
      have := h4.2 (by omega)
      unfold rShC
      rw [ek 57 (by decide), ea 121 (by decide)]; exact this
    · omega
/-- one that asks -/
theorem RB.ask (h : RB D K im tp tl ms c) (hc : c < 1000) {as ks : List Nat} (f : zfm as ks D D') (ha : ∀ a ∈ as, 98 ≤ a ∧ a ∉ ([109, 110, 111, 121] : List Nat)) (hks : ∀ k ∈ ([0, 1, 9, 10, 59, 64, 65, 66, 34, 35, 57, 58] : List Nat), k ∉ ks) : RB D' K im tp tl ms (c + 1) := by
  refine h.set ((h.1.scr f (fun a hm => (ha a hm).1) (fun k hk => hks k (by simp at hk ⊢; omega))).up hc) f (fun a hm hma => ?_) (fun k hk => hks k (by simp at hk ⊢; omega)) (Or.inl ⟨rfl, by rw [f.2 1 (hks 1 (by decide))]; exact Int.le_refl _⟩)
  have := ha a hma
  simp at hm this
  omega
/-- one that plans -/
theorem RB.plan (h : RB D K im tp tl ms c) (hc : c < 1000) {as ks : List Nat} (f : zfm as ks D D') (ha : ∀ a ∈ as, 98 ≤ a ∧ a ≠ 121) (hks : ∀ k ∈ ([0, 1, 9, 10, 59, 64, 65, 66, 57, 58] : List Nat), k ∉ ks) (hs : rSi D' K) : RB D' K im tp tl ms (c + 1) := by
  obtain ⟨h1, h2, h3, h4⟩ := h
  refine ⟨(h1.scr f (fun a hm => (ha a hm).1) (fun k hk => hks k (by simp at hk ⊢; omega))).up hc, ?_, hs, ?_⟩
  · unfold rWs; rw [f.1 96 (by omega) (fun hm => by have := ha 96 hm; omega)]; exact h2
  · unfold rShI rShC
    rw [f.2 58 (hks 58 (by decide)), f.2 1 (hks 1 (by decide)), f.2 57 (hks 57 (by decide)), f.1 121 (by omega) (fun hm => by have := ha 121 hm; omega)]; exact h4
/-- one that shares -/
theorem RB.shr (h : RB D K im tp tl ms c) (hc : c < 1000) {as ks : List Nat} (f : zfm as ks D D') (ha : ∀ a ∈ as, 98 ≤ a ∧ a ∉ ([109, 110, 111] : List Nat)) (hks : ∀ k ∈ ([0, 1, 9, 10, 59, 64, 65, 66, 34, 35] : List Nat), k ∉ ks) (hs : rShI D' K) : RB D' K im tp tl ms (c + 1) := by
  obtain ⟨h1, h2, h3, h4⟩ := h
  refine ⟨(h1.scr f (fun a hm => (ha a hm).1) (fun k hk => hks k (by simp at hk ⊢; omega))).up hc, ?_, ?_, hs⟩
  · unfold rWs; rw [f.1 96 (by omega) (fun hm => by have := ha 96 hm; omega)]; exact h2
  · unfold rSi rSc rCo rLe rPw
    rw [f.2 35 (hks 35 (by decide)), f.2 1 (hks 1 (by decide)), f.2 34 (hks 34 (by decide)), f.1 109 (by omega) (fun hm => (ha 109 hm).2 (by decide)), f.1 110 (by omega) (fun hm => (ha 110 hm).2 (by decide)), f.1 111 (by omega) (fun hm => (ha 111 hm).2 (by decide))]; exact h3
end BU
