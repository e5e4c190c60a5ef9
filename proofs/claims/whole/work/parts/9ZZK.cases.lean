/-! ===== paper; the law's loop (printed by wip/gen/lawloop.py) ===== -/
section LP
variable {F : zFs} {D : zDa} {n sl : Nat} {Z : Nat → Prop} {K : Nat → Int} {im : Nat → Option (Nat → Int)} {tp : Nat → Int} {tl : Int} {ms : Nat → Int} {c r rr : Nat}
theorem oPaper_eV (hk : kOk K) (hP : kPOk K) {L : Nat} (hL : L ≤ 400) : eV K (oPaper K tp L ms).2.2.1 := by
  have h39 := hk.2.2.2.2.2.2
  unfold oPaper
  by_cases h6 : K 393 = 6
  · rw [if_pos h6]; exact eV.rfl' K
  · rw [if_neg h6]
    have hlen := tToks_len (tp := tp) (L := L)
    split
    · exact eV.rfl' K
    · exact kPut_eV hk (by omega) (by omega) (by omega) hP
theorem Lc_paper (h : CB F D n sl Z K im tp tl ms c r rr) (hc : c < 1000) : qS (fX11_paper F D n sl) (fun x => ∃ F' D' n' sl' Z', x = ((oPaper K tp tl.toNat ms).2.1, (F', D', n', sl')) ∧ zG F' ∧ 126 ≤ n' ∧ CB F' D' n' sl' Z' (oPaper K tp tl.toNat ms).2.2.1 im tp 0 (msu (oPaper K tp tl.toNat ms).2.2.2 (oPaper K tp tl.toNat ms).1) (c + 1) r rr ∧ ∀ a, 91 ≤ a → a < 126 → D' a = D a) := by
  have hZ := h.Z1
  obtain ⟨a1, a2, a3, a4, a5, a6, a7, a8, a9, a10, a11, a12, a13⟩ := h
  have hk := a1.1.1
  have htl := a1.2.2.1.1
  have ev := oPaper_eV (tp := tp) (ms := ms) hk (qSt_POk a1.1) (L := tl.toNat) (by omega)
  refine qS_mono (pc_paper a1 hc a4 (by omega) a3) (fun x ⟨F', D', n', sl', Z', ex, e1, e2, e3, e4, e5, e6, e7, A, e8, v16, v17⟩ => ?_)
  have hr := a6.2.1
  have hrn := a6.2.2.1
  have hrr := a8.2.1
  have hrrn := a8.2.2.1
  have v : vI D D' K (oPaper K tp tl.toNat ms).2.2.1 := ⟨Or.inl ⟨v16, ev.1⟩, Or.inl ⟨v17, ev⟩⟩
  have Fr := e7 r hrn
  have Frr := e7 rr hrrn
  refine ⟨F', D', n', sl', Z', ex, A.2.2.2.2.2.2.1, by omega, ⟨A, a2.fr (e8 53 (by omega) (by omega)), fun a ha => (e6 a ha).1, by omega, a5.keep hk (fun a h1 h2 => e8 a (by omega) (by omega)) v.2, ?_, a7.keep hk (fun a h1 h2 _ => e8 a (by omega) (by omega)) (e8 r (by omega) hrn) Fr v, ?_, ?_, a10, a11.keep (e8 78 (by omega) (by omega)) (e8 79 (by omega) (by omega)) (e8 85 (by omega) (by omega)) v, by omega, by rw [Fr, Frr]; omega⟩, fun a h1 h2 => e8 a (by omega) (by omega)⟩
  · refine ⟨by rw [e8 60 (by omega) (by omega)]; exact a6.1, hr, by omega, fun hz => ?_, by rw [Fr]; exact a6.2.2.2.2⟩
    rcases (e6 r hz).2 with q | q
    · exact a6.2.2.2.1 q
    · omega
  · exact ⟨by rw [e8 78 (by omega) (by omega)]; exact a8.1, hrr, by omega, by rw [Frr]; exact a8.2.2.2⟩
  · intro hz
    rcases (e6 rr hz).2 with q | q
    · exact a9 q
    · omega
theorem Lr_paper (h : RB D K im tp tl ms c) (hc : c < 1000) : qS (fX12_paper F D) (fun x => x.1 = (oPaper K tp tl.toNat ms).2.1 ∧ RB x.2 (oPaper K tp tl.toNat ms).2.2.1 im tp 0 (msu (oPaper K tp tl.toNat ms).2.2.2 (oPaper K tp tl.toNat ms).1) (c + 1) ∧ ∀ a, a < 91 ∨ 126 ≤ a → x.2 a = D a) :=
  qS_mono (pr_paper h.1 h.2.1 hc) (fun _ ⟨e, A, f, v⟩ => ⟨e, h.set A f (by decide) (by decide) (vv v), fun a ha => f.1 a (by omega) (by simp; omega)⟩)
/-- between two calls -/
def wI (F : zFs) (D : zDa) (n sl c : Nat) : Prop := ∃ Z K im tp tl ms r rr, CB F D n sl Z K im tp tl ms c r rr ∧ RB D K im tp tl ms c
end LP
section LL
variable {E : zE}

theorem law_question {F : zFs} {D : zDa} {n sl c : Nat} {v3 : Int} {k18 : Int → zFs → zDa → Nat → Nat → Option (Int × zM)} {P : Int × zM → Prop} (h : wI F D n sl c) (hc : c < 1000) (hz : ∀ j, -2147483648 ≤ zga E 0 j ∧ zga E 0 j ≤ 2147483647) (hk : ∀ F' D' n' sl', wI F' D' n' sl' (c + 1) → qS (fL_law_1337 E k18 v3 F' D' n' sl') P) :
    qS ((fX11_question F (zga E 0 (v3 + 1).toNat) (zga E 0 (v3 + 2).toNat) D).bind (fun (r_1, D_1) =>
          (fX12_question F (zga E 0 (v3 + 1).toNat) (zga E 0 (v3 + 2).toNat) D_1).bind (fun (r_2, D_2) => if r_1 = r_2 then fL_law_1337 E k18 v3 F D_2 n sl else some (0, (F, D_2, n, sl))))) P := by
  obtain ⟨Z, K, im, tp, tl, ms, r, rr, hcb, hr⟩ := h
  refine qS_call (Lc_question hcb hc (zga E 0 (v3 + 1).toNat) (zga E 0 (v3 + 2).toNat)) (fun x ⟨ex, hb, fr⟩ => ?_)
  obtain ⟨x1, D1⟩ := x
  dsimp only at ex hb fr ⊢
  refine qS_call (Lr_question (F := F) (hr.fr fr) hc (zga E 0 (v3 + 1).toNat) (zga E 0 (v3 + 2).toNat)) (fun y ⟨ey, rb, fy⟩ => ?_)
  obtain ⟨y1, D2⟩ := y
  dsimp only at ey rb fy ⊢
  exact qS_pos (by rw [ex, ey]) (hk _ _ _ _ ⟨_, _, _, _, _, _, _, _, hb.fr fy, rb⟩)

theorem law_know {F : zFs} {D : zDa} {n sl c : Nat} {v3 : Int} {k18 : Int → zFs → zDa → Nat → Nat → Option (Int × zM)} {P : Int × zM → Prop} (h : wI F D n sl c) (hc : c < 1000) (hz : ∀ j, -2147483648 ≤ zga E 0 j ∧ zga E 0 j ≤ 2147483647) (hk : ∀ F' D' n' sl', wI F' D' n' sl' (c + 1) → qS (fL_law_1337 E k18 v3 F' D' n' sl') P) :
    qS ((fX11_know F (zga E 0 (v3 + 1).toNat) (zga E 0 (v3 + 2).toNat) (zga E 0 (v3 + 3).toNat) D).bind (fun (r_1, D_1) =>
          (fX12_know F (zga E 0 (v3 + 1).toNat) (zga E 0 (v3 + 2).toNat) (zga E 0 (v3 + 3).toNat) D_1).bind (fun (r_2, D_2) => if r_1 = r_2 then fL_law_1337 E k18 v3 F D_2 n sl else some (0, (F, D_2, n, sl))))) P := by
  obtain ⟨Z, K, im, tp, tl, ms, r, rr, hcb, hr⟩ := h
  refine qS_call (Lc_know hcb hc (zga E 0 (v3 + 1).toNat) (zga E 0 (v3 + 2).toNat) (zga E 0 (v3 + 3).toNat)) (fun x ⟨ex, hb, fr⟩ => ?_)
  obtain ⟨x1, D1⟩ := x
  dsimp only at ex hb fr ⊢
  refine qS_call (Lr_know (F := F) (hr.fr fr) hc (zga E 0 (v3 + 1).toNat) (zga E 0 (v3 + 2).toNat) (zga E 0 (v3 + 3).toNat)) (fun y ⟨ey, rb, fy⟩ => ?_)
  obtain ⟨y1, D2⟩ := y
  dsimp only at ey rb fy ⊢
  exact qS_pos (by rw [ex, ey]) (hk _ _ _ _ ⟨_, _, _, _, _, _, _, _, hb.fr fy, rb⟩)

theorem law_of {F : zFs} {D : zDa} {n sl c : Nat} {v3 : Int} {k18 : Int → zFs → zDa → Nat → Nat → Option (Int × zM)} {P : Int × zM → Prop} (h : wI F D n sl c) (hc : c < 1000) (hz : ∀ j, -2147483648 ≤ zga E 0 j ∧ zga E 0 j ≤ 2147483647) (hk : ∀ F' D' n' sl', wI F' D' n' sl' (c + 1) → qS (fL_law_1337 E k18 v3 F' D' n' sl') P) :
    qS ((fX11_of F (zga E 0 (v3 + 1).toNat) (zga E 0 (v3 + 2).toNat) D).bind (fun (r_1, D_1) =>
          (fX12_of F (zga E 0 (v3 + 1).toNat) (zga E 0 (v3 + 2).toNat) D_1).bind (fun (r_2, D_2) => if r_1 = r_2 then fL_law_1337 E k18 v3 F D_2 n sl else some (0, (F, D_2, n, sl))))) P := by
  obtain ⟨Z, K, im, tp, tl, ms, r, rr, hcb, hr⟩ := h
  refine qS_call (Lc_of hcb hc (zga E 0 (v3 + 1).toNat) (zga E 0 (v3 + 2).toNat)) (fun x ⟨ex, hb, fr⟩ => ?_)
  obtain ⟨x1, D1⟩ := x
  dsimp only at ex hb fr ⊢
  refine qS_call (Lr_of (F := F) (hr.fr fr) hc (zga E 0 (v3 + 1).toNat) (zga E 0 (v3 + 2).toNat)) (fun y ⟨ey, rb, fy⟩ => ?_)
  obtain ⟨y1, D2⟩ := y
  dsimp only at ey rb fy ⊢
  exact qS_pos (by rw [ex, ey]) (hk _ _ _ _ ⟨_, _, _, _, _, _, _, _, hb.fr fy, rb⟩)

theorem law_terms {F : zFs} {D : zDa} {n sl c : Nat} {v3 : Int} {k18 : Int → zFs → zDa → Nat → Nat → Option (Int × zM)} {P : Int × zM → Prop} (h : wI F D n sl c) (hc : c < 1000) (hz : ∀ j, -2147483648 ≤ zga E 0 j ∧ zga E 0 j ≤ 2147483647) (hk : ∀ F' D' n' sl', wI F' D' n' sl' (c + 1) → qS (fL_law_1337 E k18 v3 F' D' n' sl') P) :
    qS ((fX11_terms F (zga E 0 (v3 + 1).toNat) (zga E 0 (v3 + 2).toNat) D).bind (fun (r_1, D_1) =>
          (fX12_terms F (zga E 0 (v3 + 1).toNat) (zga E 0 (v3 + 2).toNat) D_1).bind (fun (r_2, D_2) => if r_1 = r_2 then fL_law_1337 E k18 v3 F D_2 n sl else some (0, (F, D_2, n, sl))))) P := by
  obtain ⟨Z, K, im, tp, tl, ms, r, rr, hcb, hr⟩ := h
  refine qS_call (Lc_terms hcb hc (zga E 0 (v3 + 1).toNat) (zga E 0 (v3 + 2).toNat)) (fun x ⟨ex, hb, fr⟩ => ?_)
  obtain ⟨x1, D1⟩ := x
  dsimp only at ex hb fr ⊢
  refine qS_call (Lr_terms (F := F) (hr.fr fr) hc (zga E 0 (v3 + 1).toNat) (zga E 0 (v3 + 2).toNat)) (fun y ⟨ey, rb, fy⟩ => ?_)
  obtain ⟨y1, D2⟩ := y
  dsimp only at ey rb fy ⊢
  exact qS_pos (by rw [ex, ey]) (hk _ _ _ _ ⟨_, _, _, _, _, _, _, _, hb.fr fy, rb⟩)

theorem law_feed {F : zFs} {D : zDa} {n sl c : Nat} {v3 : Int} {k18 : Int → zFs → zDa → Nat → Nat → Option (Int × zM)} {P : Int × zM → Prop} (h : wI F D n sl c) (hc : c < 1000) (hz : ∀ j, -2147483648 ≤ zga E 0 j ∧ zga E 0 j ≤ 2147483647) (hk : ∀ F' D' n' sl', wI F' D' n' sl' (c + 1) → qS (fL_law_1337 E k18 v3 F' D' n' sl') P) :
    qS ((fX11_feed F (zga E 0 (v3 + 1).toNat) (zga E 0 (v3 + 2).toNat) (zga E 0 (v3 + 3).toNat) (zga E 0 (v3 + 4).toNat) (zga E 0 (v3 + 5).toNat) D).bind (fun (r_1, D_1) =>
          (fX12_feed F (zga E 0 (v3 + 1).toNat) (zga E 0 (v3 + 2).toNat) (zga E 0 (v3 + 3).toNat) (zga E 0 (v3 + 4).toNat) (zga E 0 (v3 + 5).toNat) D_1).bind (fun (r_2, D_2) => if r_1 = r_2 then fL_law_1337 E k18 v3 F D_2 n sl else some (0, (F, D_2, n, sl))))) P := by
  obtain ⟨Z, K, im, tp, tl, ms, r, rr, hcb, hr⟩ := h
  refine qS_call (Lc_feed hcb hc (zga E 0 (v3 + 1).toNat) (zga E 0 (v3 + 2).toNat) (zga E 0 (v3 + 3).toNat) (zga E 0 (v3 + 4).toNat) (zga E 0 (v3 + 5).toNat) (fun z hz2 => by simp only [List.mem_cons, List.not_mem_nil, or_false] at hz2; rcases hz2 with e | e | e | e | e <;> (rw [e]; exact hz _))) (fun x ⟨ex, hb, fr⟩ => ?_)
  obtain ⟨x1, D1⟩ := x
  dsimp only at ex hb fr ⊢
  refine qS_call (Lr_feed (F := F) (hr.fr fr) hc (zga E 0 (v3 + 1).toNat) (zga E 0 (v3 + 2).toNat) (zga E 0 (v3 + 3).toNat) (zga E 0 (v3 + 4).toNat) (zga E 0 (v3 + 5).toNat) (fun z hz2 => by simp only [List.mem_cons, List.not_mem_nil, or_false] at hz2; rcases hz2 with e | e | e | e | e <;> (rw [e]; exact hz _))) (fun y ⟨ey, rb, fy⟩ => ?_)
  obtain ⟨y1, D2⟩ := y
  dsimp only at ey rb fy ⊢
  exact qS_pos (by rw [ex, ey]) (hk _ _ _ _ ⟨_, _, _, _, _, _, _, _, hb.fr fy, rb⟩)

theorem law_end {F : zFs} {D : zDa} {n sl c : Nat} {v3 : Int} {k18 : Int → zFs → zDa → Nat → Nat → Option (Int × zM)} {P : Int × zM → Prop} (h : wI F D n sl c) (hc : c < 1000) (hz : ∀ j, -2147483648 ≤ zga E 0 j ∧ zga E 0 j ≤ 2147483647) (hk : ∀ F' D' n' sl', wI F' D' n' sl' (c + 1) → qS (fL_law_1337 E k18 v3 F' D' n' sl') P) :
    qS ((fX11_end F (zga E 0 (v3 + 1).toNat) D).bind (fun (r_1, D_1) =>
          (fX12_end F (zga E 0 (v3 + 1).toNat) D_1).bind (fun (r_2, D_2) => if r_1 = r_2 then fL_law_1337 E k18 v3 F D_2 n sl else some (0, (F, D_2, n, sl))))) P := by
  obtain ⟨Z, K, im, tp, tl, ms, r, rr, hcb, hr⟩ := h
  refine qS_call (Lc_end hcb hc (zga E 0 (v3 + 1).toNat)) (fun x ⟨ex, hb, fr⟩ => ?_)
  obtain ⟨x1, D1⟩ := x
  dsimp only at ex hb fr ⊢
  refine qS_call (Lr_end (F := F) (hr.fr fr) hc (zga E 0 (v3 + 1).toNat)) (fun y ⟨ey, rb, fy⟩ => ?_)
  obtain ⟨y1, D2⟩ := y
  dsimp only at ey rb fy ⊢
  exact qS_pos (by rw [ex, ey]) (hk _ _ _ _ ⟨_, _, _, _, _, _, _, _, hb.fr fy, rb⟩)

theorem law_paper {F : zFs} {D : zDa} {n sl c : Nat} {v3 : Int} {k18 : Int → zFs → zDa → Nat → Nat → Option (Int × zM)} {P : Int × zM → Prop} (h : wI F D n sl c) (hc : c < 1000) (hz : ∀ j, -2147483648 ≤ zga E 0 j ∧ zga E 0 j ≤ 2147483647) (hk : ∀ F' D' n' sl', wI F' D' n' sl' (c + 1) → qS (fL_law_1337 E k18 v3 F' D' n' sl') P) :
    qS ((fX11_paper F D n sl).bind (fun (r_1, (F_1, D_1, n_1, sl_1)) =>
          if zG F_1 ∧ 126 ≤ n_1 then
            (fX12_paper F_1  D_1).bind (fun (r_2, D_2) => if r_1 = r_2 then fL_law_1337 E k18 v3 F_1 D_2 n_1 sl_1 else some (0, (F_1, D_2, n_1, sl_1)))
          else none)) P := by
  obtain ⟨Z, K, im, tp, tl, ms, r, rr, hcb, hr⟩ := h
  refine qS_call (Lc_paper hcb hc ) (fun x ⟨F', D', n', sl', g', ex, hG, hn, hb, fr⟩ => ?_)
  subst ex
  dsimp only
  refine qS_chk ⟨hG, hn⟩ ?_
  refine qS_call (Lr_paper (F := F') (hr.fr fr) hc ) (fun y ⟨ey, rb, fy⟩ => ?_)
  obtain ⟨y1, D2⟩ := y
  dsimp only at ey rb fy ⊢
  exact qS_pos ey.symm (hk _ _ _ _ ⟨_, _, _, _, _, _, _, _, hb.fr fy, rb⟩)

theorem law_fault {F : zFs} {D : zDa} {n sl c : Nat} {v3 : Int} {k18 : Int → zFs → zDa → Nat → Nat → Option (Int × zM)} {P : Int × zM → Prop} (h : wI F D n sl c) (hc : c < 1000) (hz : ∀ j, -2147483648 ≤ zga E 0 j ∧ zga E 0 j ≤ 2147483647) (hk : ∀ F' D' n' sl', wI F' D' n' sl' (c + 1) → qS (fL_law_1337 E k18 v3 F' D' n' sl') P) :
    qS ((fX11_fault F  D).bind (fun (r_1, D_1) =>
          (fX12_fault F  D_1).bind (fun (r_2, D_2) => if r_1 = r_2 then fL_law_1337 E k18 v3 F D_2 n sl else some (0, (F, D_2, n, sl))))) P := by
  obtain ⟨Z, K, im, tp, tl, ms, r, rr, hcb, hr⟩ := h
  refine qS_call (Lc_fault hcb hc ) (fun x ⟨ex, hb, fr⟩ => ?_)
  obtain ⟨x1, D1⟩ := x
  dsimp only at ex hb fr ⊢
  refine qS_call (Lr_fault (F := F) (hr.fr fr) hc ) (fun y ⟨ey, rb, fy⟩ => ?_)
  obtain ⟨y1, D2⟩ := y
  dsimp only at ey rb fy ⊢
  exact qS_pos (by rw [ex, ey]) (hk _ _ _ _ ⟨_, _, _, _, _, _, _, _, hb.fr fy, rb⟩)

theorem law_use {F : zFs} {D : zDa} {n sl c : Nat} {v3 : Int} {k18 : Int → zFs → zDa → Nat → Nat → Option (Int × zM)} {P : Int × zM → Prop} (h : wI F D n sl c) (hc : c < 1000) (hz : ∀ j, -2147483648 ≤ zga E 0 j ∧ zga E 0 j ≤ 2147483647) (hk : ∀ F' D' n' sl', wI F' D' n' sl' (c + 1) → qS (fL_law_1337 E k18 v3 F' D' n' sl') P) :
    qS ((fX11_use F (zga E 0 (v3 + 1).toNat) D).bind (fun (r_1, D_1) =>
          (fX12_use F (zga E 0 (v3 + 1).toNat) D_1).bind (fun (r_2, D_2) => if r_1 = r_2 then fL_law_1337 E k18 v3 F D_2 n sl else some (0, (F, D_2, n, sl))))) P := by
  obtain ⟨Z, K, im, tp, tl, ms, r, rr, hcb, hr⟩ := h
  refine qS_call (Lc_use hcb hc (zga E 0 (v3 + 1).toNat)) (fun x ⟨ex, hb, fr⟩ => ?_)
  obtain ⟨x1, D1⟩ := x
  dsimp only at ex hb fr ⊢
  refine qS_call (Lr_use (F := F) (hr.fr fr) hc (zga E 0 (v3 + 1).toNat)) (fun y ⟨ey, rb, fy⟩ => ?_)
  obtain ⟨y1, D2⟩ := y
  dsimp only at ey rb fy ⊢
  exact qS_pos (by rw [ex, ey]) (hk _ _ _ _ ⟨_, _, _, _, _, _, _, _, hb.fr fy, rb⟩)

theorem law_takes {F : zFs} {D : zDa} {n sl c : Nat} {v3 : Int} {k18 : Int → zFs → zDa → Nat → Nat → Option (Int × zM)} {P : Int × zM → Prop} (h : wI F D n sl c) (hc : c < 1000) (hz : ∀ j, -2147483648 ≤ zga E 0 j ∧ zga E 0 j ≤ 2147483647) (hk : ∀ F' D' n' sl', wI F' D' n' sl' (c + 1) → qS (fL_law_1337 E k18 v3 F' D' n' sl') P) :
    qS ((fX11_takes F (zga E 0 (v3 + 1).toNat) (zga E 0 (v3 + 2).toNat) (zga E 0 (v3 + 3).toNat) D).bind (fun (r_1, D_1) =>
          (fX12_takes F (zga E 0 (v3 + 1).toNat) (zga E 0 (v3 + 2).toNat) (zga E 0 (v3 + 3).toNat) D_1).bind (fun (r_2, D_2) => if r_1 = r_2 then fL_law_1337 E k18 v3 F D_2 n sl else some (0, (F, D_2, n, sl))))) P := by
  obtain ⟨Z, K, im, tp, tl, ms, r, rr, hcb, hr⟩ := h
  refine qS_call (Lc_takes hcb hc (zga E 0 (v3 + 1).toNat) (zga E 0 (v3 + 2).toNat) (zga E 0 (v3 + 3).toNat)) (fun x ⟨ex, hb, fr⟩ => ?_)
  obtain ⟨x1, D1⟩ := x
  dsimp only at ex hb fr ⊢
  refine qS_call (Lr_takes (F := F) (hr.fr fr) hc (zga E 0 (v3 + 1).toNat) (zga E 0 (v3 + 2).toNat) (zga E 0 (v3 + 3).toNat) (qSt_POk hcb.1.1)) (fun y ⟨ey, rb, fy⟩ => ?_)
  obtain ⟨y1, D2⟩ := y
  dsimp only at ey rb fy ⊢
  exact qS_pos (by rw [ex, ey]) (hk _ _ _ _ ⟨_, _, _, _, _, _, _, _, hb.fr fy, rb⟩)

theorem law_keeps {F : zFs} {D : zDa} {n sl c : Nat} {v3 : Int} {k18 : Int → zFs → zDa → Nat → Nat → Option (Int × zM)} {P : Int × zM → Prop} (h : wI F D n sl c) (hc : c < 1000) (hz : ∀ j, -2147483648 ≤ zga E 0 j ∧ zga E 0 j ≤ 2147483647) (hk : ∀ F' D' n' sl', wI F' D' n' sl' (c + 1) → qS (fL_law_1337 E k18 v3 F' D' n' sl') P) :
    qS ((fX11_keeps F (zga E 0 (v3 + 1).toNat) (zga E 0 (v3 + 2).toNat) D).bind (fun (r_1, D_1) =>
          (fX12_keeps F (zga E 0 (v3 + 1).toNat) (zga E 0 (v3 + 2).toNat) D_1).bind (fun (r_2, D_2) => if r_1 = r_2 then fL_law_1337 E k18 v3 F D_2 n sl else some (0, (F, D_2, n, sl))))) P := by
  obtain ⟨Z, K, im, tp, tl, ms, r, rr, hcb, hr⟩ := h
  refine qS_call (Lc_keeps hcb hc (zga E 0 (v3 + 1).toNat) (zga E 0 (v3 + 2).toNat)) (fun x ⟨ex, hb, fr⟩ => ?_)
  obtain ⟨x1, D1⟩ := x
  dsimp only at ex hb fr ⊢
  refine qS_call (Lr_keeps (F := F) (hr.fr fr) hc (zga E 0 (v3 + 1).toNat) (zga E 0 (v3 + 2).toNat) (qSt_POk hcb.1.1)) (fun y ⟨ey, rb, fy⟩ => ?_)
  obtain ⟨y1, D2⟩ := y
  dsimp only at ey rb fy ⊢
  exact qS_pos (by rw [ex, ey]) (hk _ _ _ _ ⟨_, _, _, _, _, _, _, _, hb.fr fy, rb⟩)

theorem law_chance {F : zFs} {D : zDa} {n sl c : Nat} {v3 : Int} {k18 : Int → zFs → zDa → Nat → Nat → Option (Int × zM)} {P : Int × zM → Prop} (h : wI F D n sl c) (hc : c < 1000) (hz : ∀ j, -2147483648 ≤ zga E 0 j ∧ zga E 0 j ≤ 2147483647) (hk : ∀ F' D' n' sl', wI F' D' n' sl' (c + 1) → qS (fL_law_1337 E k18 v3 F' D' n' sl') P) :
    qS ((fX11_chance F (zga E 0 (v3 + 1).toNat) D).bind (fun (r_1, D_1) =>
          (fX12_chance F (zga E 0 (v3 + 1).toNat) D_1).bind (fun (r_2, D_2) => if r_1 = r_2 then fL_law_1337 E k18 v3 F D_2 n sl else some (0, (F, D_2, n, sl))))) P := by
  obtain ⟨Z, K, im, tp, tl, ms, r, rr, hcb, hr⟩ := h
  refine qS_call (Lc_chance hcb hc (zga E 0 (v3 + 1).toNat)) (fun x ⟨ex, hb, fr⟩ => ?_)
  obtain ⟨x1, D1⟩ := x
  dsimp only at ex hb fr ⊢
  refine qS_call (Lr_chance (F := F) (hr.fr fr) hc (zga E 0 (v3 + 1).toNat) (qSt_POk hcb.1.1)) (fun y ⟨ey, rb, fy⟩ => ?_)
  obtain ⟨y1, D2⟩ := y
  dsimp only at ey rb fy ⊢
  exact qS_pos (by rw [ex, ey]) (hk _ _ _ _ ⟨_, _, _, _, _, _, _, _, hb.fr fy, rb⟩)

theorem law_pass {F : zFs} {D : zDa} {n sl c : Nat} {v3 : Int} {k18 : Int → zFs → zDa → Nat → Nat → Option (Int × zM)} {P : Int × zM → Prop} (h : wI F D n sl c) (hc : c < 1000) (hz : ∀ j, -2147483648 ≤ zga E 0 j ∧ zga E 0 j ≤ 2147483647) (hk : ∀ F' D' n' sl', wI F' D' n' sl' (c + 1) → qS (fL_law_1337 E k18 v3 F' D' n' sl') P) :
    qS ((fX11_pass F (zga E 0 (v3 + 1).toNat) D).bind (fun (r_1, D_1) =>
          (fX12_pass F (zga E 0 (v3 + 1).toNat) D_1).bind (fun (r_2, D_2) => if r_1 = r_2 then fL_law_1337 E k18 v3 F D_2 n sl else some (0, (F, D_2, n, sl))))) P := by
  obtain ⟨Z, K, im, tp, tl, ms, r, rr, hcb, hr⟩ := h
  refine qS_call (Lc_pass hcb hc (zga E 0 (v3 + 1).toNat)) (fun x ⟨ex, hb, fr⟩ => ?_)
  obtain ⟨x1, D1⟩ := x
  dsimp only at ex hb fr ⊢
  refine qS_call (Lr_pass (F := F) (hr.fr fr) hc (zga E 0 (v3 + 1).toNat) (qSt_POk hcb.1.1)) (fun y ⟨ey, rb, fy⟩ => ?_)
  obtain ⟨y1, D2⟩ := y
  dsimp only at ey rb fy ⊢
  exact qS_pos (by rw [ex, ey]) (hk _ _ _ _ ⟨_, _, _, _, _, _, _, _, hb.fr fy, rb⟩)

theorem law_right {F : zFs} {D : zDa} {n sl c : Nat} {v3 : Int} {k18 : Int → zFs → zDa → Nat → Nat → Option (Int × zM)} {P : Int × zM → Prop} (h : wI F D n sl c) (hc : c < 1000) (hz : ∀ j, -2147483648 ≤ zga E 0 j ∧ zga E 0 j ≤ 2147483647) (hk : ∀ F' D' n' sl', wI F' D' n' sl' (c + 1) → qS (fL_law_1337 E k18 v3 F' D' n' sl') P) :
    qS ((fX11_right F (zga E 0 (v3 + 1).toNat) (zga E 0 (v3 + 2).toNat) D).bind (fun (r_1, D_1) =>
          (fX12_right F (zga E 0 (v3 + 1).toNat) (zga E 0 (v3 + 2).toNat) D_1).bind (fun (r_2, D_2) => if r_1 = r_2 then fL_law_1337 E k18 v3 F D_2 n sl else some (0, (F, D_2, n, sl))))) P := by
  obtain ⟨Z, K, im, tp, tl, ms, r, rr, hcb, hr⟩ := h
  refine qS_call (Lc_right hcb hc (zga E 0 (v3 + 1).toNat) (zga E 0 (v3 + 2).toNat)) (fun x ⟨ex, hb, fr⟩ => ?_)
  obtain ⟨x1, D1⟩ := x
  dsimp only at ex hb fr ⊢
  refine qS_call (Lr_right (F := F) (hr.fr fr) hc (zga E 0 (v3 + 1).toNat) (zga E 0 (v3 + 2).toNat) (qSt_POk hcb.1.1)) (fun y ⟨ey, rb, fy⟩ => ?_)
  obtain ⟨y1, D2⟩ := y
  dsimp only at ey rb fy ⊢
  exact qS_pos (by rw [ex, ey]) (hk _ _ _ _ ⟨_, _, _, _, _, _, _, _, hb.fr fy, rb⟩)

theorem law_mean {F : zFs} {D : zDa} {n sl c : Nat} {v3 : Int} {k18 : Int → zFs → zDa → Nat → Nat → Option (Int × zM)} {P : Int × zM → Prop} (h : wI F D n sl c) (hc : c < 1000) (hz : ∀ j, -2147483648 ≤ zga E 0 j ∧ zga E 0 j ≤ 2147483647) (hk : ∀ F' D' n' sl', wI F' D' n' sl' (c + 1) → qS (fL_law_1337 E k18 v3 F' D' n' sl') P) :
    qS ((fX11_mean F (zga E 0 (v3 + 1).toNat) D).bind (fun (r_1, D_1) =>
          (fX12_mean F (zga E 0 (v3 + 1).toNat) D_1).bind (fun (r_2, D_2) => if r_1 = r_2 then fL_law_1337 E k18 v3 F D_2 n sl else some (0, (F, D_2, n, sl))))) P := by
  obtain ⟨Z, K, im, tp, tl, ms, r, rr, hcb, hr⟩ := h
  refine qS_call (Lc_mean hcb hc (zga E 0 (v3 + 1).toNat)) (fun x ⟨ex, hb, fr⟩ => ?_)
  obtain ⟨x1, D1⟩ := x
  dsimp only at ex hb fr ⊢
  refine qS_call (Lr_mean (F := F) (hr.fr fr) hc (zga E 0 (v3 + 1).toNat) (qSt_POk hcb.1.1)) (fun y ⟨ey, rb, fy⟩ => ?_)
  obtain ⟨y1, D2⟩ := y
  dsimp only at ey rb fy ⊢
  exact qS_pos (by rw [ex, ey]) (hk _ _ _ _ ⟨_, _, _, _, _, _, _, _, hb.fr fy, rb⟩)

theorem law_sure {F : zFs} {D : zDa} {n sl c : Nat} {v3 : Int} {k18 : Int → zFs → zDa → Nat → Nat → Option (Int × zM)} {P : Int × zM → Prop} (h : wI F D n sl c) (hc : c < 1000) (hz : ∀ j, -2147483648 ≤ zga E 0 j ∧ zga E 0 j ≤ 2147483647) (hk : ∀ F' D' n' sl', wI F' D' n' sl' (c + 1) → qS (fL_law_1337 E k18 v3 F' D' n' sl') P) :
    qS ((fX11_sure F (zga E 0 (v3 + 1).toNat) (zga E 0 (v3 + 2).toNat) D).bind (fun (r_1, D_1) =>
          (fX12_sure F (zga E 0 (v3 + 1).toNat) (zga E 0 (v3 + 2).toNat) D_1).bind (fun (r_2, D_2) => if r_1 = r_2 then fL_law_1337 E k18 v3 F D_2 n sl else some (0, (F, D_2, n, sl))))) P := by
  obtain ⟨Z, K, im, tp, tl, ms, r, rr, hcb, hr⟩ := h
  refine qS_call (Lc_sure hcb hc (zga E 0 (v3 + 1).toNat) (zga E 0 (v3 + 2).toNat)) (fun x ⟨ex, hb, fr⟩ => ?_)
  obtain ⟨x1, D1⟩ := x
  dsimp only at ex hb fr ⊢
  refine qS_call (Lr_sure (F := F) (hr.fr fr) hc (zga E 0 (v3 + 1).toNat) (zga E 0 (v3 + 2).toNat) (qSt_POk hcb.1.1)) (fun y ⟨ey, rb, fy⟩ => ?_)
  obtain ⟨y1, D2⟩ := y
  dsimp only at ey rb fy ⊢
  exact qS_pos (by rw [ex, ey]) (hk _ _ _ _ ⟨_, _, _, _, _, _, _, _, hb.fr fy, rb⟩)

theorem law_safe {F : zFs} {D : zDa} {n sl c : Nat} {v3 : Int} {k18 : Int → zFs → zDa → Nat → Nat → Option (Int × zM)} {P : Int × zM → Prop} (h : wI F D n sl c) (hc : c < 1000) (hz : ∀ j, -2147483648 ≤ zga E 0 j ∧ zga E 0 j ≤ 2147483647) (hk : ∀ F' D' n' sl', wI F' D' n' sl' (c + 1) → qS (fL_law_1337 E k18 v3 F' D' n' sl') P) :
    qS ((fX11_safe F  D).bind (fun (r_1, D_1) =>
          (fX12_safe F  D_1).bind (fun (r_2, D_2) => if r_1 = r_2 then fL_law_1337 E k18 v3 F D_2 n sl else some (0, (F, D_2, n, sl))))) P := by
  obtain ⟨Z, K, im, tp, tl, ms, r, rr, hcb, hr⟩ := h
  refine qS_call (Lc_safe hcb hc ) (fun x ⟨ex, hb, fr⟩ => ?_)
  obtain ⟨x1, D1⟩ := x
  dsimp only at ex hb fr ⊢
  refine qS_call (Lr_safe (F := F) (hr.fr fr) hc  (qSt_POk hcb.1.1)) (fun y ⟨ey, rb, fy⟩ => ?_)
  obtain ⟨y1, D2⟩ := y
  dsimp only at ey rb fy ⊢
  exact qS_pos (by rw [ex, ey]) (hk _ _ _ _ ⟨_, _, _, _, _, _, _, _, hb.fr fy, rb⟩)

theorem law_worth {F : zFs} {D : zDa} {n sl c : Nat} {v3 : Int} {k18 : Int → zFs → zDa → Nat → Nat → Option (Int × zM)} {P : Int × zM → Prop} (h : wI F D n sl c) (hc : c < 1000) (hz : ∀ j, -2147483648 ≤ zga E 0 j ∧ zga E 0 j ≤ 2147483647) (hk : ∀ F' D' n' sl', wI F' D' n' sl' (c + 1) → qS (fL_law_1337 E k18 v3 F' D' n' sl') P) :
    qS ((fX11_worth F (zga E 0 (v3 + 1).toNat) D).bind (fun (r_1, D_1) =>
          (fX12_worth F (zga E 0 (v3 + 1).toNat) D_1).bind (fun (r_2, D_2) => if r_1 = r_2 then fL_law_1337 E k18 v3 F D_2 n sl else some (0, (F, D_2, n, sl))))) P := by
  obtain ⟨Z, K, im, tp, tl, ms, r, rr, hcb, hr⟩ := h
  refine qS_call (Lc_worth hcb hc (zga E 0 (v3 + 1).toNat)) (fun x ⟨ex, hb, fr⟩ => ?_)
  obtain ⟨x1, D1⟩ := x
  dsimp only at ex hb fr ⊢
  refine qS_call (Lr_worth (F := F) (hr.fr fr) hc (zga E 0 (v3 + 1).toNat) (qSt_POk hcb.1.1)) (fun y ⟨ey, rb, fy⟩ => ?_)
  obtain ⟨y1, D2⟩ := y
  dsimp only at ey rb fy ⊢
  exact qS_pos (by rw [ex, ey]) (hk _ _ _ _ ⟨_, _, _, _, _, _, _, _, hb.fr fy, rb⟩)

theorem law_best {F : zFs} {D : zDa} {n sl c : Nat} {v3 : Int} {k18 : Int → zFs → zDa → Nat → Nat → Option (Int × zM)} {P : Int × zM → Prop} (h : wI F D n sl c) (hc : c < 1000) (hz : ∀ j, -2147483648 ≤ zga E 0 j ∧ zga E 0 j ≤ 2147483647) (hk : ∀ F' D' n' sl', wI F' D' n' sl' (c + 1) → qS (fL_law_1337 E k18 v3 F' D' n' sl') P) :
    qS ((fX11_best (zga E 0 (v3 + 1).toNat) (zga E 0 (v3 + 2).toNat) F D n sl).bind (fun (r_1, (F_1, D_1, n_1, sl_1)) =>
          if zG F_1 ∧ 126 ≤ n_1 then
            (fX12_best F_1 (zga E 0 (v3 + 1).toNat) (zga E 0 (v3 + 2).toNat) D_1).bind (fun (r_2, D_2) => if r_1 = r_2 then fL_law_1337 E k18 v3 F_1 D_2 n_1 sl_1 else some (0, (F_1, D_2, n_1, sl_1)))
          else none)) P := by
  obtain ⟨Z, K, im, tp, tl, ms, r, rr, hcb, hr⟩ := h
  refine qS_call (Lc_best hcb hc (zga E 0 (v3 + 1).toNat) (zga E 0 (v3 + 2).toNat)) (fun x ⟨F', D', n', sl', g', ex, hG, hn, hb, fr⟩ => ?_)
  subst ex
  dsimp only
  refine qS_chk ⟨hG, hn⟩ ?_
  refine qS_call (Lr_best (F := F') (hr.fr fr) hc (zga E 0 (v3 + 1).toNat) (zga E 0 (v3 + 2).toNat) (qSt_POk hcb.1.1)) (fun y ⟨ey, rb, fy⟩ => ?_)
  obtain ⟨y1, D2⟩ := y
  dsimp only at ey rb fy ⊢
  exact qS_pos ey.symm (hk _ _ _ _ ⟨_, _, _, _, _, _, _, _, hb.fr fy, rb⟩)

theorem law_level {F : zFs} {D : zDa} {n sl c : Nat} {v3 : Int} {k18 : Int → zFs → zDa → Nat → Nat → Option (Int × zM)} {P : Int × zM → Prop} (h : wI F D n sl c) (hc : c < 1000) (hz : ∀ j, -2147483648 ≤ zga E 0 j ∧ zga E 0 j ≤ 2147483647) (hk : ∀ F' D' n' sl', wI F' D' n' sl' (c + 1) → qS (fL_law_1337 E k18 v3 F' D' n' sl') P) :
    qS ((fX11_level (zga E 0 (v3 + 1).toNat) (zga E 0 (v3 + 2).toNat) F D n sl).bind (fun (r_1, (F_1, D_1, n_1, sl_1)) =>
          if zG F_1 ∧ 126 ≤ n_1 then
            (fX12_level F_1 (zga E 0 (v3 + 1).toNat) (zga E 0 (v3 + 2).toNat) D_1).bind (fun (r_2, D_2) => if r_1 = r_2 then fL_law_1337 E k18 v3 F_1 D_2 n_1 sl_1 else some (0, (F_1, D_2, n_1, sl_1)))
          else none)) P := by
  obtain ⟨Z, K, im, tp, tl, ms, r, rr, hcb, hr⟩ := h
  refine qS_call (Lc_level hcb hc (zga E 0 (v3 + 1).toNat) (zga E 0 (v3 + 2).toNat)) (fun x ⟨F', D', n', sl', g', ex, hG, hn, hb, fr⟩ => ?_)
  subst ex
  dsimp only
  refine qS_chk ⟨hG, hn⟩ ?_
  refine qS_call (Lr_level (F := F') (hr.fr fr) hc (zga E 0 (v3 + 1).toNat) (zga E 0 (v3 + 2).toNat) (qSt_POk hcb.1.1)) (fun y ⟨ey, rb, fy⟩ => ?_)
  obtain ⟨y1, D2⟩ := y
  dsimp only at ey rb fy ⊢
  exact qS_pos ey.symm (hk _ _ _ _ ⟨_, _, _, _, _, _, _, _, hb.fr fy, rb⟩)

theorem law_enough {F : zFs} {D : zDa} {n sl c : Nat} {v3 : Int} {k18 : Int → zFs → zDa → Nat → Nat → Option (Int × zM)} {P : Int × zM → Prop} (h : wI F D n sl c) (hc : c < 1000) (hz : ∀ j, -2147483648 ≤ zga E 0 j ∧ zga E 0 j ≤ 2147483647) (hk : ∀ F' D' n' sl', wI F' D' n' sl' (c + 1) → qS (fL_law_1337 E k18 v3 F' D' n' sl') P) :
    qS ((fX11_enough (zga E 0 (v3 + 1).toNat) F D n sl).bind (fun (r_1, (F_1, D_1, n_1, sl_1)) =>
          if zG F_1 ∧ 126 ≤ n_1 then
            (fX12_enough F_1 (zga E 0 (v3 + 1).toNat) D_1).bind (fun (r_2, D_2) => if r_1 = r_2 then fL_law_1337 E k18 v3 F_1 D_2 n_1 sl_1 else some (0, (F_1, D_2, n_1, sl_1)))
          else none)) P := by
  obtain ⟨Z, K, im, tp, tl, ms, r, rr, hcb, hr⟩ := h
  refine qS_call (Lc_enough hcb hc (zga E 0 (v3 + 1).toNat)) (fun x ⟨F', D', n', sl', g', ex, hG, hn, hb, fr⟩ => ?_)
  subst ex
  dsimp only
  refine qS_chk ⟨hG, hn⟩ ?_
  refine qS_call (Lr_enough (F := F') (hr.fr fr) hc (zga E 0 (v3 + 1).toNat) (qSt_POk hcb.1.1)) (fun y ⟨ey, rb, fy⟩ => ?_)
  obtain ⟨y1, D2⟩ := y
  dsimp only at ey rb fy ⊢
  exact qS_pos ey.symm (hk _ _ _ _ ⟨_, _, _, _, _, _, _, _, hb.fr fy, rb⟩)

theorem law_lesson {F : zFs} {D : zDa} {n sl c : Nat} {v3 : Int} {k18 : Int → zFs → zDa → Nat → Nat → Option (Int × zM)} {P : Int × zM → Prop} (h : wI F D n sl c) (hc : c < 1000) (hz : ∀ j, -2147483648 ≤ zga E 0 j ∧ zga E 0 j ≤ 2147483647) (hk : ∀ F' D' n' sl', wI F' D' n' sl' (c + 1) → qS (fL_law_1337 E k18 v3 F' D' n' sl') P) :
    qS ((fX11_lesson F (zga E 0 (v3 + 1).toNat) (zga E 0 (v3 + 2).toNat) D).bind (fun (r_1, D_1) =>
          (fX12_lesson F (zga E 0 (v3 + 1).toNat) (zga E 0 (v3 + 2).toNat) D_1).bind (fun (r_2, D_2) => if r_1 = r_2 then fL_law_1337 E k18 v3 F D_2 n sl else some (0, (F, D_2, n, sl))))) P := by
  obtain ⟨Z, K, im, tp, tl, ms, r, rr, hcb, hr⟩ := h
  refine qS_call (Lc_lesson hcb hc (zga E 0 (v3 + 1).toNat) (zga E 0 (v3 + 2).toNat)) (fun x ⟨ex, hb, fr⟩ => ?_)
  obtain ⟨x1, D1⟩ := x
  dsimp only at ex hb fr ⊢
  refine qS_call (Lr_lesson (F := F) (hr.fr fr) hc (zga E 0 (v3 + 1).toNat) (zga E 0 (v3 + 2).toNat)) (fun y ⟨ey, rb, fy⟩ => ?_)
  obtain ⟨y1, D2⟩ := y
  dsimp only at ey rb fy ⊢
  exact qS_pos (by rw [ex, ey]) (hk _ _ _ _ ⟨_, _, _, _, _, _, _, _, hb.fr fy, rb⟩)

theorem law_clear {F : zFs} {D : zDa} {n sl c : Nat} {v3 : Int} {k18 : Int → zFs → zDa → Nat → Nat → Option (Int × zM)} {P : Int × zM → Prop} (h : wI F D n sl c) (hc : c < 1000) (hz : ∀ j, -2147483648 ≤ zga E 0 j ∧ zga E 0 j ≤ 2147483647) (hk : ∀ F' D' n' sl', wI F' D' n' sl' (c + 1) → qS (fL_law_1337 E k18 v3 F' D' n' sl') P) :
    qS ((fX11_clear F  D).bind (fun (r_1, D_1) =>
          (fX12_clear F  D_1).bind (fun (r_2, D_2) => if r_1 = r_2 then fL_law_1337 E k18 v3 F D_2 n sl else some (0, (F, D_2, n, sl))))) P := by
  obtain ⟨Z, K, im, tp, tl, ms, r, rr, hcb, hr⟩ := h
  refine qS_call (Lc_clear hcb hc ) (fun x ⟨ex, hb, fr⟩ => ?_)
  obtain ⟨x1, D1⟩ := x
  dsimp only at ex hb fr ⊢
  refine qS_call (Lr_clear (F := F) (hr.fr fr) hc ) (fun y ⟨ey, rb, fy⟩ => ?_)
  obtain ⟨y1, D2⟩ := y
  dsimp only at ey rb fy ⊢
  exact qS_pos (by rw [ex, ey]) (hk _ _ _ _ ⟨_, _, _, _, _, _, _, _, hb.fr fy, rb⟩)

theorem law_behind {F : zFs} {D : zDa} {n sl c : Nat} {v3 : Int} {k18 : Int → zFs → zDa → Nat → Nat → Option (Int × zM)} {P : Int × zM → Prop} (h : wI F D n sl c) (hc : c < 1000) (hz : ∀ j, -2147483648 ≤ zga E 0 j ∧ zga E 0 j ≤ 2147483647) (hk : ∀ F' D' n' sl', wI F' D' n' sl' (c + 1) → qS (fL_law_1337 E k18 v3 F' D' n' sl') P) :
    qS ((fX11_behind F (zga E 0 (v3 + 1).toNat) (zga E 0 (v3 + 2).toNat) D).bind (fun (r_1, D_1) =>
          (fX12_behind F (zga E 0 (v3 + 1).toNat) (zga E 0 (v3 + 2).toNat) D_1).bind (fun (r_2, D_2) => if r_1 = r_2 then fL_law_1337 E k18 v3 F D_2 n sl else some (0, (F, D_2, n, sl))))) P := by
  obtain ⟨Z, K, im, tp, tl, ms, r, rr, hcb, hr⟩ := h
  refine qS_call (Lc_behind hcb hc (zga E 0 (v3 + 1).toNat) (zga E 0 (v3 + 2).toNat)) (fun x ⟨ex, hb, fr⟩ => ?_)
  obtain ⟨x1, D1⟩ := x
  dsimp only at ex hb fr ⊢
  refine qS_call (Lr_behind (F := F) (hr.fr fr) hc (zga E 0 (v3 + 1).toNat) (zga E 0 (v3 + 2).toNat) (qSt_POk hcb.1.1)) (fun y ⟨ey, rb, fy⟩ => ?_)
  obtain ⟨y1, D2⟩ := y
  dsimp only at ey rb fy ⊢
  exact qS_pos (by rw [ex, ey]) (hk _ _ _ _ ⟨_, _, _, _, _, _, _, _, hb.fr fy, rb⟩)

theorem law_judge {F : zFs} {D : zDa} {n sl c : Nat} {v3 : Int} {k18 : Int → zFs → zDa → Nat → Nat → Option (Int × zM)} {P : Int × zM → Prop} (h : wI F D n sl c) (hc : c < 1000) (hz : ∀ j, -2147483648 ≤ zga E 0 j ∧ zga E 0 j ≤ 2147483647) (hk : ∀ F' D' n' sl', wI F' D' n' sl' (c + 1) → qS (fL_law_1337 E k18 v3 F' D' n' sl') P) :
    qS ((fX11_judge F (zga E 0 (v3 + 1).toNat) D).bind (fun (r_1, D_1) =>
          (fX12_judge F (zga E 0 (v3 + 1).toNat) D_1).bind (fun (r_2, D_2) => if r_1 = r_2 then fL_law_1337 E k18 v3 F D_2 n sl else some (0, (F, D_2, n, sl))))) P := by
  obtain ⟨Z, K, im, tp, tl, ms, r, rr, hcb, hr⟩ := h
  refine qS_call (Lc_judge hcb hc (zga E 0 (v3 + 1).toNat)) (fun x ⟨ex, hb, fr⟩ => ?_)
  obtain ⟨x1, D1⟩ := x
  dsimp only at ex hb fr ⊢
  refine qS_call (Lr_judge (F := F) (hr.fr fr) hc (zga E 0 (v3 + 1).toNat) (qSt_POk hcb.1.1)) (fun y ⟨ey, rb, fy⟩ => ?_)
  obtain ⟨y1, D2⟩ := y
  dsimp only at ey rb fy ⊢
  exact qS_pos (by rw [ex, ey]) (hk _ _ _ _ ⟨_, _, _, _, _, _, _, _, hb.fr fy, rb⟩)

theorem law_learn {F : zFs} {D : zDa} {n sl c : Nat} {v3 : Int} {k18 : Int → zFs → zDa → Nat → Nat → Option (Int × zM)} {P : Int × zM → Prop} (h : wI F D n sl c) (hc : c < 1000) (hz : ∀ j, -2147483648 ≤ zga E 0 j ∧ zga E 0 j ≤ 2147483647) (hk : ∀ F' D' n' sl', wI F' D' n' sl' (c + 1) → qS (fL_law_1337 E k18 v3 F' D' n' sl') P) :
    qS ((fX11_learn F  D).bind (fun (r_1, D_1) =>
          (fX12_learn F  D_1).bind (fun (r_2, D_2) => if r_1 = r_2 then fL_law_1337 E k18 v3 F D_2 n sl else some (0, (F, D_2, n, sl))))) P := by
  obtain ⟨Z, K, im, tp, tl, ms, r, rr, hcb, hr⟩ := h
  refine qS_call (Lc_learn hcb hc ) (fun x ⟨ex, hb, fr⟩ => ?_)
  obtain ⟨x1, D1⟩ := x
  dsimp only at ex hb fr ⊢
  refine qS_call (Lr_learn (F := F) (hr.fr fr) hc  (qSt_POk hcb.1.1)) (fun y ⟨ey, rb, fy⟩ => ?_)
  obtain ⟨y1, D2⟩ := y
  dsimp only at ey rb fy ⊢
  exact qS_pos (by rw [ex, ey]) (hk _ _ _ _ ⟨_, _, _, _, _, _, _, _, hb.fr fy, rb⟩)

theorem law_backward {F : zFs} {D : zDa} {n sl c : Nat} {v3 : Int} {k18 : Int → zFs → zDa → Nat → Nat → Option (Int × zM)} {P : Int × zM → Prop} (h : wI F D n sl c) (hc : c < 1000) (hz : ∀ j, -2147483648 ≤ zga E 0 j ∧ zga E 0 j ≤ 2147483647) (hk : ∀ F' D' n' sl', wI F' D' n' sl' (c + 1) → qS (fL_law_1337 E k18 v3 F' D' n' sl') P) :
    qS ((fX11_backward (zga E 0 (v3 + 1).toNat) (zga E 0 (v3 + 2).toNat) F D n sl).bind (fun (r_1, (F_1, D_1, n_1, sl_1)) =>
          if zG F_1 ∧ 126 ≤ n_1 then
            (fX12_backward F_1 (zga E 0 (v3 + 1).toNat) (zga E 0 (v3 + 2).toNat) D_1).bind (fun (r_2, D_2) => if r_1 = r_2 then fL_law_1337 E k18 v3 F_1 D_2 n_1 sl_1 else some (0, (F_1, D_2, n_1, sl_1)))
          else none)) P := by
  obtain ⟨Z, K, im, tp, tl, ms, r, rr, hcb, hr⟩ := h
  refine qS_call (Lc_backward hcb hc (zga E 0 (v3 + 1).toNat) (zga E 0 (v3 + 2).toNat)) (fun x ⟨F', D', n', sl', g', ex, hG, hn, hb, fr⟩ => ?_)
  subst ex
  dsimp only
  refine qS_chk ⟨hG, hn⟩ ?_
  refine qS_call (Lr_backward (F := F') (hr.fr fr) hc (zga E 0 (v3 + 1).toNat) (zga E 0 (v3 + 2).toNat) (qSt_POk hcb.1.1)) (fun y ⟨ey, rb, fy⟩ => ?_)
  obtain ⟨y1, D2⟩ := y
  dsimp only at ey rb fy ⊢
  exact qS_pos ey.symm (hk _ _ _ _ ⟨_, _, _, _, _, _, _, _, hb.fr fy, rb⟩)

theorem law_friend {F : zFs} {D : zDa} {n sl c : Nat} {v3 : Int} {k18 : Int → zFs → zDa → Nat → Nat → Option (Int × zM)} {P : Int × zM → Prop} (h : wI F D n sl c) (hc : c < 1000) (hz : ∀ j, -2147483648 ≤ zga E 0 j ∧ zga E 0 j ≤ 2147483647) (hk : ∀ F' D' n' sl', wI F' D' n' sl' (c + 1) → qS (fL_law_1337 E k18 v3 F' D' n' sl') P) :
    qS ((fX11_friend F (zga E 0 (v3 + 1).toNat) (zga E 0 (v3 + 2).toNat) D).bind (fun (r_1, D_1) =>
          (fX12_friend F (zga E 0 (v3 + 1).toNat) (zga E 0 (v3 + 2).toNat) D_1).bind (fun (r_2, D_2) => if r_1 = r_2 then fL_law_1337 E k18 v3 F D_2 n sl else some (0, (F, D_2, n, sl))))) P := by
  obtain ⟨Z, K, im, tp, tl, ms, r, rr, hcb, hr⟩ := h
  refine qS_call (Lc_friend hcb hc (zga E 0 (v3 + 1).toNat) (zga E 0 (v3 + 2).toNat)) (fun x ⟨ex, hb, fr⟩ => ?_)
  obtain ⟨x1, D1⟩ := x
  dsimp only at ex hb fr ⊢
  refine qS_call (Lr_friend (F := F) (hr.fr fr) hc (zga E 0 (v3 + 1).toNat) (zga E 0 (v3 + 2).toNat)) (fun y ⟨ey, rb, fy⟩ => ?_)
  obtain ⟨y1, D2⟩ := y
  dsimp only at ey rb fy ⊢
  exact qS_pos (by rw [ex, ey]) (hk _ _ _ _ ⟨_, _, _, _, _, _, _, _, hb.fr fy, rb⟩)

theorem law_share {F : zFs} {D : zDa} {n sl c : Nat} {v3 : Int} {k18 : Int → zFs → zDa → Nat → Nat → Option (Int × zM)} {P : Int × zM → Prop} (h : wI F D n sl c) (hc : c < 1000) (hz : ∀ j, -2147483648 ≤ zga E 0 j ∧ zga E 0 j ≤ 2147483647) (hk : ∀ F' D' n' sl', wI F' D' n' sl' (c + 1) → qS (fL_law_1337 E k18 v3 F' D' n' sl') P) :
    qS ((fX11_share (zga E 0 (v3 + 1).toNat) F D n sl).bind (fun (r_1, (F_1, D_1, n_1, sl_1)) =>
          if zG F_1 ∧ 126 ≤ n_1 then
            (fX12_share F_1 (zga E 0 (v3 + 1).toNat) D_1).bind (fun (r_2, D_2) => if r_1 = r_2 then fL_law_1337 E k18 v3 F_1 D_2 n_1 sl_1 else some (0, (F_1, D_2, n_1, sl_1)))
          else none)) P := by
  obtain ⟨Z, K, im, tp, tl, ms, r, rr, hcb, hr⟩ := h
  refine qS_call (Lc_share hcb hc (zga E 0 (v3 + 1).toNat)) (fun x ⟨F', D', n', sl', g', ex, hG, hn, hb, fr⟩ => ?_)
  subst ex
  dsimp only
  refine qS_chk ⟨hG, hn⟩ ?_
  refine qS_call (Lr_share (F := F') (hr.fr fr) hc (zga E 0 (v3 + 1).toNat) (qSt_POk hcb.1.1)) (fun y ⟨ey, rb, fy⟩ => ?_)
  obtain ⟨y1, D2⟩ := y
  dsimp only at ey rb fy ⊢
  exact qS_pos ey.symm (hk _ _ _ _ ⟨_, _, _, _, _, _, _, _, hb.fr fy, rb⟩)

theorem law_ill {F : zFs} {D : zDa} {n sl c : Nat} {v3 : Int} {k18 : Int → zFs → zDa → Nat → Nat → Option (Int × zM)} {P : Int × zM → Prop} (h : wI F D n sl c) (hc : c < 1000) (hz : ∀ j, -2147483648 ≤ zga E 0 j ∧ zga E 0 j ≤ 2147483647) (hk : ∀ F' D' n' sl', wI F' D' n' sl' (c + 1) → qS (fL_law_1337 E k18 v3 F' D' n' sl') P) :
    qS ((fX11_ill (zga E 0 (v3 + 1).toNat) (zga E 0 (v3 + 2).toNat) F D n sl).bind (fun (r_1, (F_1, D_1, n_1, sl_1)) =>
          if zG F_1 ∧ 126 ≤ n_1 then
            (fX12_ill F_1 (zga E 0 (v3 + 1).toNat) (zga E 0 (v3 + 2).toNat) D_1).bind (fun (r_2, D_2) => if r_1 = r_2 then fL_law_1337 E k18 v3 F_1 D_2 n_1 sl_1 else some (0, (F_1, D_2, n_1, sl_1)))
          else none)) P := by
  obtain ⟨Z, K, im, tp, tl, ms, r, rr, hcb, hr⟩ := h
  refine qS_call (Lc_ill hcb hc (zga E 0 (v3 + 1).toNat) (zga E 0 (v3 + 2).toNat)) (fun x ⟨F', D', n', sl', g', ex, hG, hn, hb, fr⟩ => ?_)
  subst ex
  dsimp only
  refine qS_chk ⟨hG, hn⟩ ?_
  refine qS_call (Lr_ill (F := F') (hr.fr fr) hc (zga E 0 (v3 + 1).toNat) (zga E 0 (v3 + 2).toNat) (qSt_POk hcb.1.1)) (fun y ⟨ey, rb, fy⟩ => ?_)
  obtain ⟨y1, D2⟩ := y
  dsimp only at ey rb fy ⊢
  exact qS_pos ey.symm (hk _ _ _ _ ⟨_, _, _, _, _, _, _, _, hb.fr fy, rb⟩)

theorem law_year {F : zFs} {D : zDa} {n sl c : Nat} {v3 : Int} {k18 : Int → zFs → zDa → Nat → Nat → Option (Int × zM)} {P : Int × zM → Prop} (h : wI F D n sl c) (hc : c < 1000) (hz : ∀ j, -2147483648 ≤ zga E 0 j ∧ zga E 0 j ≤ 2147483647) (hk : ∀ F' D' n' sl', wI F' D' n' sl' (c + 1) → qS (fL_law_1337 E k18 v3 F' D' n' sl') P) :
    qS ((fX11_year F (zga E 0 (v3 + 1).toNat) D).bind (fun (r_1, D_1) =>
          (fX12_year F (zga E 0 (v3 + 1).toNat) D_1).bind (fun (r_2, D_2) => if r_1 = r_2 then fL_law_1337 E k18 v3 F D_2 n sl else some (0, (F, D_2, n, sl))))) P := by
  obtain ⟨Z, K, im, tp, tl, ms, r, rr, hcb, hr⟩ := h
  refine qS_call (Lc_year hcb hc (zga E 0 (v3 + 1).toNat) (hz _)) (fun x ⟨ex, hb, fr⟩ => ?_)
  obtain ⟨x1, D1⟩ := x
  dsimp only at ex hb fr ⊢
  refine qS_call (Lr_year (F := F) (hr.fr fr) hc (zga E 0 (v3 + 1).toNat)) (fun y ⟨ey, rb, fy⟩ => ?_)
  obtain ⟨y1, D2⟩ := y
  dsimp only at ey rb fy ⊢
  exact qS_pos (by rw [ex, ey]) (hk _ _ _ _ ⟨_, _, _, _, _, _, _, _, hb.fr fy, rb⟩)

theorem law_row {F : zFs} {D : zDa} {n sl c : Nat} {v3 : Int} {k18 : Int → zFs → zDa → Nat → Nat → Option (Int × zM)} {P : Int × zM → Prop} (h : wI F D n sl c) (hc : c < 1000) (hz : ∀ j, -2147483648 ≤ zga E 0 j ∧ zga E 0 j ≤ 2147483647) (hk : ∀ F' D' n' sl', wI F' D' n' sl' (c + 1) → qS (fL_law_1337 E k18 v3 F' D' n' sl') P) :
    qS ((fX11_row F  D).bind (fun (r_1, D_1) =>
          (fX12_row F  D_1).bind (fun (r_2, D_2) => if r_1 = r_2 then fL_law_1337 E k18 v3 F D_2 n sl else some (0, (F, D_2, n, sl))))) P := by
  obtain ⟨Z, K, im, tp, tl, ms, r, rr, hcb, hr⟩ := h
  refine qS_call (Lc_row hcb hc  hr.1.1.2.2) (fun x ⟨ex, hb, fr⟩ => ?_)
  obtain ⟨x1, D1⟩ := x
  dsimp only at ex hb fr ⊢
  refine qS_call (Lr_row (F := F) (hr.fr fr) hc ) (fun y ⟨ey, rb, fy⟩ => ?_)
  obtain ⟨y1, D2⟩ := y
  dsimp only at ey rb fy ⊢
  exact qS_pos (by rw [ex, ey]) (hk _ _ _ _ ⟨_, _, _, _, _, _, _, _, hb.fr fy, rb⟩)

theorem law_lost {F : zFs} {D : zDa} {n sl c : Nat} {v3 : Int} {k18 : Int → zFs → zDa → Nat → Nat → Option (Int × zM)} {P : Int × zM → Prop} (h : wI F D n sl c) (hc : c < 1000) (hz : ∀ j, -2147483648 ≤ zga E 0 j ∧ zga E 0 j ≤ 2147483647) (hk : ∀ F' D' n' sl', wI F' D' n' sl' (c + 1) → qS (fL_law_1337 E k18 v3 F' D' n' sl') P) :
    qS ((fX11_lost F  D).bind (fun (r_1, D_1) =>
          (fX12_lost F  D_1).bind (fun (r_2, D_2) => if r_1 = r_2 then fL_law_1337 E k18 v3 F D_2 n sl else some (0, (F, D_2, n, sl))))) P := by
  obtain ⟨Z, K, im, tp, tl, ms, r, rr, hcb, hr⟩ := h
  refine qS_call (Lc_lost hcb hc ) (fun x ⟨ex, hb, fr⟩ => ?_)
  obtain ⟨x1, D1⟩ := x
  dsimp only at ex hb fr ⊢
  refine qS_call (Lr_lost (F := F) (hr.fr fr) hc ) (fun y ⟨ey, rb, fy⟩ => ?_)
  obtain ⟨y1, D2⟩ := y
  dsimp only at ey rb fy ⊢
  exact qS_pos (by rw [ex, ey]) (hk _ _ _ _ ⟨_, _, _, _, _, _, _, _, hb.fr fy, rb⟩)

theorem law_drawn {F : zFs} {D : zDa} {n sl c : Nat} {v3 : Int} {k18 : Int → zFs → zDa → Nat → Nat → Option (Int × zM)} {P : Int × zM → Prop} (h : wI F D n sl c) (hc : c < 1000) (hz : ∀ j, -2147483648 ≤ zga E 0 j ∧ zga E 0 j ≤ 2147483647) (hk : ∀ F' D' n' sl', wI F' D' n' sl' (c + 1) → qS (fL_law_1337 E k18 v3 F' D' n' sl') P) :
    qS ((fX11_drawn F (zga E 0 (v3 + 1).toNat) (zga E 0 (v3 + 2).toNat) D).bind (fun (r_1, D_1) =>
          (fX12_drawn F (zga E 0 (v3 + 1).toNat) (zga E 0 (v3 + 2).toNat) D_1).bind (fun (r_2, D_2) => if r_1 = r_2 then fL_law_1337 E k18 v3 F D_2 n sl else some (0, (F, D_2, n, sl))))) P := by
  obtain ⟨Z, K, im, tp, tl, ms, r, rr, hcb, hr⟩ := h
  refine qS_call (Lc_drawn hcb hc (zga E 0 (v3 + 1).toNat) (zga E 0 (v3 + 2).toNat)) (fun x ⟨ex, hb, fr⟩ => ?_)
  obtain ⟨x1, D1⟩ := x
  dsimp only at ex hb fr ⊢
  refine qS_call (Lr_drawn (F := F) (hr.fr fr) hc (zga E 0 (v3 + 1).toNat) (zga E 0 (v3 + 2).toNat)) (fun y ⟨ey, rb, fy⟩ => ?_)
  obtain ⟨y1, D2⟩ := y
  dsimp only at ey rb fy ⊢
  exact qS_pos (by rw [ex, ey]) (hk _ _ _ _ ⟨_, _, _, _, _, _, _, _, hb.fr fy, rb⟩)

theorem law_seldom {F : zFs} {D : zDa} {n sl c : Nat} {v3 : Int} {k18 : Int → zFs → zDa → Nat → Nat → Option (Int × zM)} {P : Int × zM → Prop} (h : wI F D n sl c) (hc : c < 1000) (hz : ∀ j, -2147483648 ≤ zga E 0 j ∧ zga E 0 j ≤ 2147483647) (hk : ∀ F' D' n' sl', wI F' D' n' sl' (c + 1) → qS (fL_law_1337 E k18 v3 F' D' n' sl') P) :
    qS ((fX11_seldom F (zga E 0 (v3 + 1).toNat) D).bind (fun (r_1, D_1) =>
          (fX12_seldom F (zga E 0 (v3 + 1).toNat) D_1).bind (fun (r_2, D_2) => if r_1 = r_2 then fL_law_1337 E k18 v3 F D_2 n sl else some (0, (F, D_2, n, sl))))) P := by
  obtain ⟨Z, K, im, tp, tl, ms, r, rr, hcb, hr⟩ := h
  refine qS_call (Lc_seldom hcb hc (zga E 0 (v3 + 1).toNat)) (fun x ⟨ex, hb, fr⟩ => ?_)
  obtain ⟨x1, D1⟩ := x
  dsimp only at ex hb fr ⊢
  refine qS_call (Lr_seldom (F := F) (hr.fr fr) hc (zga E 0 (v3 + 1).toNat) hcb.G) (fun y ⟨ey, rb, fy⟩ => ?_)
  obtain ⟨y1, D2⟩ := y
  dsimp only at ey rb fy ⊢
  exact qS_pos (by rw [ex, ey]) (hk _ _ _ _ ⟨_, _, _, _, _, _, _, _, hb.fr fy, rb⟩)

theorem law_exam {F : zFs} {D : zDa} {n sl c : Nat} {v3 : Int} {k18 : Int → zFs → zDa → Nat → Nat → Option (Int × zM)} {P : Int × zM → Prop} (h : wI F D n sl c) (hc : c < 1000) (hz : ∀ j, -2147483648 ≤ zga E 0 j ∧ zga E 0 j ≤ 2147483647) (hk : ∀ F' D' n' sl', wI F' D' n' sl' (c + 1) → qS (fL_law_1337 E k18 v3 F' D' n' sl') P) :
    qS ((fX11_exam F (zga E 0 (v3 + 1).toNat) D).bind (fun (r_1, D_1) =>
          (fX12_exam F (zga E 0 (v3 + 1).toNat) D_1).bind (fun (r_2, D_2) => if r_1 = r_2 then fL_law_1337 E k18 v3 F D_2 n sl else some (0, (F, D_2, n, sl))))) P := by
  obtain ⟨Z, K, im, tp, tl, ms, r, rr, hcb, hr⟩ := h
  refine qS_call (Lc_exam hcb hc (zga E 0 (v3 + 1).toNat)) (fun x ⟨ex, hb, fr⟩ => ?_)
  obtain ⟨x1, D1⟩ := x
  dsimp only at ex hb fr ⊢
  refine qS_call (Lr_exam (F := F) (hr.fr fr) hc (zga E 0 (v3 + 1).toNat) (qSt_POk hcb.1.1)) (fun y ⟨ey, rb, fy⟩ => ?_)
  obtain ⟨y1, D2⟩ := y
  dsimp only at ey rb fy ⊢
  exact qS_pos (by rw [ex, ey]) (hk _ _ _ _ ⟨_, _, _, _, _, _, _, _, hb.fr fy, rb⟩)

theorem law_table {F : zFs} {D : zDa} {n sl c : Nat} {v3 : Int} {k18 : Int → zFs → zDa → Nat → Nat → Option (Int × zM)} {P : Int × zM → Prop} (h : wI F D n sl c) (hc : c < 1000) (hz : ∀ j, -2147483648 ≤ zga E 0 j ∧ zga E 0 j ≤ 2147483647) (hk : ∀ F' D' n' sl', wI F' D' n' sl' (c + 1) → qS (fL_law_1337 E k18 v3 F' D' n' sl') P) :
    qS ((fX11_table F (zga E 0 (v3 + 1).toNat) D).bind (fun (r_1, D_1) =>
          (fX12_table F (zga E 0 (v3 + 1).toNat) D_1).bind (fun (r_2, D_2) => if r_1 = r_2 then fL_law_1337 E k18 v3 F D_2 n sl else some (0, (F, D_2, n, sl))))) P := by
  obtain ⟨Z, K, im, tp, tl, ms, r, rr, hcb, hr⟩ := h
  refine qS_call (Lc_table hcb hc (zga E 0 (v3 + 1).toNat)) (fun x ⟨ex, hb, fr⟩ => ?_)
  obtain ⟨x1, D1⟩ := x
  dsimp only at ex hb fr ⊢
  refine qS_call (Lr_table (F := F) (hr.fr fr) hc (zga E 0 (v3 + 1).toNat)) (fun y ⟨ey, rb, fy⟩ => ?_)
  obtain ⟨y1, D2⟩ := y
  dsimp only at ey rb fy ⊢
  exact qS_pos (by rw [ex, ey]) (hk _ _ _ _ ⟨_, _, _, _, _, _, _, _, hb.fr fy, rb⟩)

theorem law_exams {F : zFs} {D : zDa} {n sl c : Nat} {v3 : Int} {k18 : Int → zFs → zDa → Nat → Nat → Option (Int × zM)} {P : Int × zM → Prop} (h : wI F D n sl c) (hc : c < 1000) (hz : ∀ j, -2147483648 ≤ zga E 0 j ∧ zga E 0 j ≤ 2147483647) (hk : ∀ F' D' n' sl', wI F' D' n' sl' (c + 1) → qS (fL_law_1337 E k18 v3 F' D' n' sl') P) :
    qS ((fX11_exams F (zga E 0 (v3 + 1).toNat) (zga E 0 (v3 + 2).toNat) D).bind (fun (r_1, D_1) =>
          (fX12_exams F (zga E 0 (v3 + 1).toNat) (zga E 0 (v3 + 2).toNat) D_1).bind (fun (r_2, D_2) => if r_1 = r_2 then fL_law_1337 E k18 v3 F D_2 n sl else some (0, (F, D_2, n, sl))))) P := by
  obtain ⟨Z, K, im, tp, tl, ms, r, rr, hcb, hr⟩ := h
  refine qS_call (Lc_exams hcb hc (zga E 0 (v3 + 1).toNat) (zga E 0 (v3 + 2).toNat)) (fun x ⟨ex, hb, fr⟩ => ?_)
  obtain ⟨x1, D1⟩ := x
  dsimp only at ex hb fr ⊢
  refine qS_call (Lr_exams (F := F) (hr.fr fr) hc (zga E 0 (v3 + 1).toNat) (zga E 0 (v3 + 2).toNat) (qSt_POk hcb.1.1)) (fun y ⟨ey, rb, fy⟩ => ?_)
  obtain ⟨y1, D2⟩ := y
  dsimp only at ey rb fy ⊢
  exact qS_pos (by rw [ex, ey]) (hk _ _ _ _ ⟨_, _, _, _, _, _, _, _, hb.fr fy, rb⟩)

theorem law_image {F : zFs} {D : zDa} {n sl c : Nat} {v3 : Int} {k18 : Int → zFs → zDa → Nat → Nat → Option (Int × zM)} {P : Int × zM → Prop} (h : wI F D n sl c) (hc : c < 1000) (hz : ∀ j, -2147483648 ≤ zga E 0 j ∧ zga E 0 j ≤ 2147483647) (hk : ∀ F' D' n' sl', wI F' D' n' sl' (c + 1) → qS (fL_law_1337 E k18 v3 F' D' n' sl') P) :
    qS ((fX11_image F (zga E 0 (v3 + 1).toNat) D).bind (fun (r_1, D_1) =>
          (fX12_image F (zga E 0 (v3 + 1).toNat) D_1).bind (fun (r_2, D_2) => if r_1 = r_2 then fL_law_1337 E k18 v3 F D_2 n sl else some (0, (F, D_2, n, sl))))) P := by
  obtain ⟨Z, K, im, tp, tl, ms, r, rr, hcb, hr⟩ := h
  refine qS_call (Lc_image hcb hc (zga E 0 (v3 + 1).toNat)) (fun x ⟨ex, hb, fr⟩ => ?_)
  obtain ⟨x1, D1⟩ := x
  dsimp only at ex hb fr ⊢
  refine qS_call (Lr_image (F := F) (hr.fr fr) hc (zga E 0 (v3 + 1).toNat)) (fun y ⟨ey, rb, fy⟩ => ?_)
  obtain ⟨y1, D2⟩ := y
  dsimp only at ey rb fy ⊢
  exact qS_pos (by rw [ex, ey]) (hk _ _ _ _ ⟨_, _, _, _, _, _, _, _, hb.fr fy, rb⟩)

theorem law_back {F : zFs} {D : zDa} {n sl c : Nat} {v3 : Int} {k18 : Int → zFs → zDa → Nat → Nat → Option (Int × zM)} {P : Int × zM → Prop} (h : wI F D n sl c) (hc : c < 1000) (hz : ∀ j, -2147483648 ≤ zga E 0 j ∧ zga E 0 j ≤ 2147483647) (hk : ∀ F' D' n' sl', wI F' D' n' sl' (c + 1) → qS (fL_law_1337 E k18 v3 F' D' n' sl') P) :
    qS ((fX11_back F (zga E 0 (v3 + 1).toNat) D).bind (fun (r_1, D_1) =>
          (fX12_back F (zga E 0 (v3 + 1).toNat) D_1).bind (fun (r_2, D_2) => if r_1 = r_2 then fL_law_1337 E k18 v3 F D_2 n sl else some (0, (F, D_2, n, sl))))) P := by
  obtain ⟨Z, K, im, tp, tl, ms, r, rr, hcb, hr⟩ := h
  refine qS_call (Lc_back hcb hc (zga E 0 (v3 + 1).toNat)) (fun x ⟨ex, hb, fr⟩ => ?_)
  obtain ⟨x1, D1⟩ := x
  dsimp only at ex hb fr ⊢
  refine qS_call (Lr_back (F := F) (hr.fr fr) hc (zga E 0 (v3 + 1).toNat)) (fun y ⟨ey, rb, fy⟩ => ?_)
  obtain ⟨y1, D2⟩ := y
  dsimp only at ey rb fy ⊢
  exact qS_pos (by rw [ex, ey]) (hk _ _ _ _ ⟨_, _, _, _, _, _, _, _, hb.fr fy, rb⟩)

theorem law_count {F : zFs} {D : zDa} {n sl c : Nat} {v3 : Int} {k18 : Int → zFs → zDa → Nat → Nat → Option (Int × zM)} {P : Int × zM → Prop} (h : wI F D n sl c) (hc : c < 1000) (hz : ∀ j, -2147483648 ≤ zga E 0 j ∧ zga E 0 j ≤ 2147483647) (hk : ∀ F' D' n' sl', wI F' D' n' sl' (c + 1) → qS (fL_law_1337 E k18 v3 F' D' n' sl') P) :
    qS ((fX11_count F (zga E 0 (v3 + 1).toNat) D).bind (fun (r_1, D_1) =>
          (fX12_count F (zga E 0 (v3 + 1).toNat) D_1).bind (fun (r_2, D_2) => if r_1 = r_2 then fL_law_1337 E k18 v3 F D_2 n sl else some (0, (F, D_2, n, sl))))) P := by
  obtain ⟨Z, K, im, tp, tl, ms, r, rr, hcb, hr⟩ := h
  refine qS_call (Lc_count hcb hc (zga E 0 (v3 + 1).toNat)) (fun x ⟨ex, hb, fr⟩ => ?_)
  obtain ⟨x1, D1⟩ := x
  dsimp only at ex hb fr ⊢
  refine qS_call (Lr_count (F := F) (hr.fr fr) hc (zga E 0 (v3 + 1).toNat)) (fun y ⟨ey, rb, fy⟩ => ?_)
  obtain ⟨y1, D2⟩ := y
  dsimp only at ey rb fy ⊢
  exact qS_pos (by rw [ex, ey]) (hk _ _ _ _ ⟨_, _, _, _, _, _, _, _, hb.fr fy, rb⟩)

theorem law_status {F : zFs} {D : zDa} {n sl c : Nat} {v3 : Int} {k18 : Int → zFs → zDa → Nat → Nat → Option (Int × zM)} {P : Int × zM → Prop} (h : wI F D n sl c) (hc : c < 1000) (hz : ∀ j, -2147483648 ≤ zga E 0 j ∧ zga E 0 j ≤ 2147483647) (hk : ∀ F' D' n' sl', wI F' D' n' sl' (c + 1) → qS (fL_law_1337 E k18 v3 F' D' n' sl') P) :
    qS ((fX11_status F  D).bind (fun (r_1, D_1) =>
          (fX12_status F  D_1).bind (fun (r_2, D_2) => if r_1 = r_2 then fL_law_1337 E k18 v3 F D_2 n sl else some (0, (F, D_2, n, sl))))) P := by
  obtain ⟨Z, K, im, tp, tl, ms, r, rr, hcb, hr⟩ := h
  refine qS_call (Lc_status hcb hc ) (fun x ⟨ex, hb, fr⟩ => ?_)
  obtain ⟨x1, D1⟩ := x
  dsimp only at ex hb fr ⊢
  refine qS_call (Lr_status (F := F) (hr.fr fr) hc ) (fun y ⟨ey, rb, fy⟩ => ?_)
  obtain ⟨y1, D2⟩ := y
  dsimp only at ey rb fy ⊢
  exact qS_pos (by rw [ex, ey]) (hk _ _ _ _ ⟨_, _, _, _, _, _, _, _, hb.fr fy, rb⟩)

end LL
