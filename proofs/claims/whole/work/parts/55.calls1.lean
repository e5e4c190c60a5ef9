/-! ===== calls that change the state: refused, or accepted ===== -/
def cP (F : zFs) (D : zDa) (Z : Nat → Prop) (K : Nat → Int) (im : Nat → Option (Nat → Int)) (tp : Nat → Int) (tl : Int) (ms : Nat → Int) (c : Nat) (o : Int × Int × (Nat → Int)) (r : Int × zDa) : Prop :=
  r.1 = o.2.1 ∧ cA F r.2 Z o.2.2 im tp tl (msu ms o.1) (c + 1) ∧ fC D r.2 ∧ vI D r.2 K o.2.2
def rP (D : zDa) (K : Nat → Int) (im : Nat → Option (Nat → Int)) (tp : Nat → Int) (tl : Int) (ms : Nat → Int) (c : Nat) (o : Int × Int × (Nat → Int)) (r : Int × zDa) : Prop :=
  r.1 = o.2.1 ∧ rA r.2 o.2.2 im tp tl (msu ms o.1) (c + 1) ∧ fR D r.2 ∧ ((o.2.2 = K ∧ r.2 91 1 = D 91 1) ∨ D 91 1 < r.2 91 1)
theorem qS_id {x : Option (Int × zDa)} {P : Int × zDa → Prop} (h : qS x P) : qS (x.bind (fun (r, D') => some (r, D'))) P := by
  obtain ⟨⟨r, D'⟩, e, hp⟩ := h
  exact ⟨(r, D'), by rw [e]; rfl, hp⟩
theorem qS_id' {x : Option (Int × zDa)} {P : Int × zDa → Prop} (h : qS x P) : qS (x.bind (fun x => some (x.1, x.2))) P := by
  obtain ⟨⟨r, D'⟩, e, hp⟩ := h
  exact ⟨(r, D'), by rw [e]; rfl, hp⟩
section CP
variable {F : zFs} {D D1 : zDa} {Z : Nat → Prop} {K K' : Nat → Int} {im : Nat → Option (Nat → Int)} {tp : Nat → Int} {tl : Int} {ms : Nat → Int} {c : Nat}
theorem vI.same (e1 : D1 1 = D 1) : vI D D1 K K := by unfold vI; rw [e1]; exact ⟨Or.inl ⟨rfl, eP.rfl' K⟩, Or.inl ⟨rfl, eV.rfl' K⟩⟩
theorem cP.refuse (h : cA F D Z K im tp tl ms c) (hc : c < 1000) (e : Int) (he : e = -1 ∨ e = -2 ∨ e = -5 ∨ e = -6) {o : Int × Int × (Nat → Int)} (ho : o = (e, e, K)) : qS ((fX11_refuse F e D).bind (fun (r, D') => some (r, D'))) (cP F D Z K im tp tl ms c o) := by
  obtain ⟨D', e1, h1, h2, h3⟩ := pX11_refuse h e he hc
  subst ho
  exact qS_step e1 (qS_ret ⟨rfl, h1, h2, vI.same h3⟩)
theorem rP.refuse (h : rA D K im tp tl ms c) (hc : c < 1000) (e : Int) (he : e = -1 ∨ e = -2 ∨ e = -5 ∨ e = -6) {o : Int × Int × (Nat → Int)} (ho : o = (e, e, K)) : qS ((fX12_refuses F e D).bind (fun (r, D') => some (r, D'))) (rP D K im tp tl ms c o) := by
  obtain ⟨D', e1, h1, h2, h3⟩ := pX12_refuses (F := F) h e he hc
  subst ho
  exact qS_step e1 (qS_ret ⟨rfl, h1, h2, Or.inl ⟨rfl, h3⟩⟩)
theorem msu_0 {ms : Nat → Int} {k : Nat} (h : 1 ≤ k) : msu ms 0 k = ms k := by unfold msu; rw [if_neg (by omega), if_neg (by omega)]
/-- the State's rows have changed, and the call is accepted -/
theorem cA.now (h : cA F D Z K im tp tl ms c) (hc : c < 1000) (hq : qSt F D1 Z 1 K') (hr : ∀ a, (a = 0 ∨ 13 ≤ a) → D1 a = D a) (hv : (0 ≤ D1 1 16 ∧ D1 1 16 ≤ c + 1) ∧ (0 ≤ D1 1 17 ∧ D1 1 17 ≤ c + 1)) : cA F (zwr D1 0 9 0) Z K' im tp tl (msu ms 0) (c + 1) := by
  obtain ⟨h1, h2, h3, ⟨m0, m1, m2, m3, m4, m5, m6⟩, h5, h6, h7, h8⟩ := h
  have r0 := hr 0 (by omega)
  have r39 := hr 39 (by omega)
  have r40 := hr 40 (by omega)
  have r41 := hr 41 (by omega)
  have r14 := hr 14 (by omega)
  have r26 := hr 26 (by omega)
  refine ⟨hq.rows h8 (fun a ha => by rw [zwr_row (by omega)]) (fun a ha hb => by rw [zwr_row (by omega)]), cA.images h2 h8 (fun a ha => by rw [zwr_row (by omega)]; exact hr a (by omega)) (fun a ha hb => by rw [zwr_row (by omega)]; exact hr a (by omega)), ?_, ?_, ?_, by omega, h7, h8⟩
  · rw [zwr_off (by omega), zwr_row (by omega), r0, r39]; exact h3
  · rw [zwr_eq, zwr_off (by omega), zwr_off (by omega), zwr_row (b := 40) (by omega), zwr_row (b := 41) (by omega), r0, r40, r41]
    refine ⟨rfl, by rw [msu_0 (by omega)]; exact m1, by rw [msu_0 (by omega)]; exact m2, by rw [msu_0 (by omega)]; exact m3, by rw [msu_0 (by omega)]; exact m4, by rw [msu_0 (by omega)]; exact m5, ?_⟩
    intro k k1 k6
    have := m6 k k1 k6
    rw [msu_0 k1]; omega
  · intro s hs
    simp only [List.mem_cons, List.not_mem_nil, or_false] at hs
    rcases hs with rfl | rfl | rfl
    · rw [zwr_row (by omega)]; omega
    · have := h5 14 (by simp)
      rw [zwr_row (by omega), r14]; omega
    · have := h5 26 (by simp)
      rw [zwr_row (by omega), r26]; omega
theorem cA.good (h : cA F D Z K im tp tl ms c) : zG F := h.2.2.2.2.2.2.1
theorem cA.st (h : cA F D Z K im tp tl ms c) : qSt F D Z 1 K := h.1
theorem cA.ver (h : cA F D Z K im tp tl ms c) : (0 ≤ D 1 16 ∧ D 1 16 ≤ c) ∧ (0 ≤ D 1 17 ∧ D 1 17 ≤ c) := h.2.2.2.2.1 1 (by simp)
theorem cP.accept (h : cA F D Z K im tp tl ms c) (hc : c < 1000) (hq : qSt F D1 Z 1 K') (hr : ∀ a, (a = 0 ∨ 13 ≤ a) → D1 a = D a) (hv : (0 ≤ D1 1 16 ∧ D1 1 16 ≤ c + 1) ∧ (0 ≤ D1 1 17 ∧ D1 1 17 ≤ c + 1)) (hI : vI D D1 K K') (v : Int) {o : Int × Int × (Nat → Int)} (ho : o = (0, v, K')) : qS ((fX11_accept F v D1).bind (fun (r, D') => some (r, D'))) (cP F D Z K im tp tl ms c o) := by
  subst ho
  refine ⟨(v, zwr D1 0 9 0), rfl, rfl, cA.now h hc hq hr hv, fun a ha => ?_, ?_⟩
  · show zwr D1 0 9 0 a = D a
    rw [zwr_row (by omega)]; exact hr a (by omega)
  · show vI D (zwr D1 0 9 0) K K'
    unfold vI; rw [zwr_row (by omega)]; exact hI
theorem rA.now (h : rA D K im tp tl ms c) (hc : c < 1000) (hK : D1 93 = K') (hk : kOk K') (h0 : ∀ i, 5201 ≤ i → K' i = 0) (hr : ∀ a, a ≠ 93 → D1 a = D a) : rA (zwr (zwr D1 91 0 0) 91 1 (D1 91 1 + 1)) K' im tp tl (msu ms 0) (c + 1) := by
  obtain ⟨h1, h2, h3, ⟨m0, m1, m2, m3, m4, m5, m6⟩, h5, h6⟩ := h
  have r91 := hr 91 (by omega)
  have r92 := hr 92 (by omega)
  have r94 := hr 94 (by omega)
  have r95 := hr 95 (by omega)
  have r97 := hr 97 (by omega)
  refine ⟨⟨by rw [zwr_row (by omega), zwr_row (by omega)]; exact hK, hk, h0⟩, ?_, ?_, ?_, ?_, by omega⟩
  · rw [zwr_row (b := 95) (by omega), zwr_row (b := 95) (by omega), zwr_row (b := 94) (by omega), zwr_row (b := 94) (by omega), r94, r95]; exact h2
  · rw [zwr_off (by omega), zwr_off (by omega), zwr_row (by omega), zwr_row (by omega), r91, r97]; exact h3
  · rw [zwr_off (by omega), zwr_eq, zwr_off (by omega), zwr_off (by omega), zwr_off (by omega), zwr_off (by omega), zwr_off (by omega), zwr_off (by omega), zwr_off (by omega), zwr_off (by omega), zwr_off (by omega), zwr_off (by omega), zwr_row (b := 92) (by omega), zwr_row (b := 92) (by omega), r91, r92]
    refine ⟨rfl, by rw [msu_0 (by omega)]; exact m1, by rw [msu_0 (by omega)]; exact m2, by rw [msu_0 (by omega)]; exact m3, by rw [msu_0 (by omega), msu_0 (by omega), msu_0 (by omega)]; exact m4, by rw [msu_0 (by omega), msu_0 (by omega), msu_0 (by omega)]; exact m5, ?_⟩
    intro k k1 k6
    have := m6 k k1 k6
    rw [msu_0 k1]; omega
  · rw [zwr_eq, r91]; omega
theorem pX12_good {v : Int} (h : 0 ≤ D1 91 1 ∧ D1 91 1 ≤ 1000) : fX12_good F v D1 = some (v, zwr (zwr D1 91 0 0) 91 1 (D1 91 1 + 1)) := by
  simp only [fX12_good, zlet]
  rw [zwr_off (by omega), if_pos (by omega)]
theorem rP.good (h : rA D K im tp tl ms c) (hc : c < 1000) (hK : D1 93 = K') (hk : kOk K') (h0 : ∀ i, 5201 ≤ i → K' i = 0) (hr : ∀ a, a ≠ 93 → D1 a = D a) (v : Int) {o : Int × Int × (Nat → Int)} (ho : o = (0, v, K')) : qS ((fX12_good F v D1).bind (fun (r, D') => some (r, D'))) (rP D K im tp tl ms c o) := by
  subst ho
  have h5 := h.2.2.2.2.1
  have r91 := hr 91 (by omega)
  refine qS_step (pX12_good (by rw [r91]; omega)) (qS_ret ⟨rfl, rA.now h hc hK hk h0 hr, ?_, Or.inr ?_⟩)
  · have h1 : fR D D1 := ⟨fun a ha hb => hr a (fun e => hb (by rw [e]; decide)), fun k _ => by rw [r91]⟩
    exact (zfm.wf (zfm.wf h1 (by decide)) (by decide))
  · show D 91 1 < zwr (zwr D1 91 0 0) 91 1 (D1 91 1 + 1) 91 1
    rw [zwr_eq, r91]; omega
theorem pX9_pricesChanged (hG : zG F) (h : (0 ≤ D 1 16 ∧ D 1 16 ≤ 1000) ∧ (0 ≤ D 1 17 ∧ D 1 17 ≤ 1000)) : fX9_pricesChanged F 1 D = some (zwr (zwr D 1 16 (D 1 16 + 1)) 1 17 (D 1 17 + 1)) := by
  simp only [fX9_pricesChanged, zlet]
  rw [if_pos ⟨gk_1 hG, by omega⟩, zwr_off (by omega), if_pos (by omega)]
theorem pX9_has (v : Int) : fX9_has F v D = some (if 0 ≤ v ∧ v < D 1 5 then 1 else 0, D) := by
  unfold fX9_has
  by_cases h1 : v < 0
  · rw [if_pos h1, if_neg (by omega)]
  · by_cases h2 : v < D 1 5
    · rw [if_neg h1, if_pos h2, if_pos (by omega)]
    · rw [if_neg h1, if_neg h2, if_neg (by omega)]
theorem pX12_lies (v a b : Int) : fX12_lies F v a b D = some (if a ≤ v ∧ v ≤ b then 1 else 0, D) := by
  unfold fX12_lies
  by_cases h1 : v < a
  · rw [if_pos h1, if_neg (by omega)]
  · by_cases h2 : b < v
    · rw [if_neg h1, if_pos h2, if_neg (by omega)]
    · rw [if_neg h1, if_neg h2, if_pos (by omega)]
theorem pX12_isQuestion (hk : kOk (D 93)) (v : Int) : fX12_isQuestion F v D = some (if 0 ≤ v ∧ v < D 93 390 then 1 else 0, D) := by
  have h := hk.1
  simp only [fX12_isQuestion, fX12_questions, Option.bind_some, pX12_lies]
  rw [if_pos (by omega)]
  have e : (0 ≤ v ∧ v ≤ D 93 390 - 1) = (0 ≤ v ∧ v < D 93 390) := propext ⟨fun h => by omega, fun h => by omega⟩
  by_cases h1 : 0 ≤ v ∧ v < D 93 390
  · simp [h1, show v ≤ D 93 390 - 1 by omega]
  · simp only [e, if_neg h1]; rfl
theorem pX12_factOf {v : Int} {q : Nat} {w : Int} {k : Nat} (hv : v = (q : Int)) (hw : w = (k : Int)) (h : q < 1000 ∧ k < 5) : fX12_factOf F v w D = some (D 93 (5 * q + k), D) := by
  unfold fX12_factOf
  rw [if_pos (by omega)]
  have : ((0 + (5 * v)) + w).toNat = 5 * q + k := by omega
  rw [this]
theorem pX12_term {w : Int} {k : Nat} (hw : w = (k : Int)) (h : k < 7) : fX12_term F w D = some (D 93 (100 + k), D) := by
  unfold fX12_term
  rw [if_pos (by omega)]
  have : (100 + w).toNat = 100 + k := by omega
  rw [this]
theorem pX12_replaces {i : Nat} {v w : Int} (hv : v = (i : Int)) (hi : i < 5201) (h : rA D K im tp tl ms c) (hc : c < 1000) (hk : kOk (zset K i w)) {o : Int × Int × (Nat → Int)} (ho : o = (0, K i, zset K i w)) : qS ((fX12_replaces F v w D).bind (fun (r, D') => some (r, D'))) (rP D K im tp tl ms c o) := by
  subst hv
  have e1 : ((i : Int)).toNat = i := by omega
  have hb : ∀ x : Option (Int × zDa), x.bind (fun (r, D') => some (r, D')) = x := by intro x; cases x <;> rfl
  rw [hb]
  simp only [fX12_replaces, zlet, e1]
  refine qS_chk (by omega) ?_
  have hK := h.1.1
  rw [hK]
  refine rP.good h hc ?_ hk ?_ ?_ (K i) ho
  · rw [zwr_self, hK]
  · intro j hj
    have := h.1.2.2 j hj
    unfold zset
    rw [if_neg (by omega)]; exact this
  · intro a ha; exact zwr_row ha
end CP
theorem zset_eq {r : Nat → Int} {k : Nat} {v : Int} : zset r k v k = v := by unfold zset; rw [if_pos rfl]
theorem zset_off {r : Nat → Int} {k j : Nat} {v : Int} (h : j ≠ k) : zset r k v j = r j := by unfold zset; rw [if_neg h]
