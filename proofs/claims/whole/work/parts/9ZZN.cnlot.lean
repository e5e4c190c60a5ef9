/-! ===== the triangle that Lot's constructor fills ===== -/
def cT (i j : Nat) : Nat → Int := fun m => if (m / 21 < i ∧ m % 21 ≤ m / 21) ∨ (m / 21 = i ∧ m % 21 < j) then ((kC (m / 21) (m % 21) : Nat) : Int) else 0
def cLotT : Nat → Int := cT 21 0
theorem cT_0 : cT 0 0 = fun _ => 0 := by
  funext m; unfold cT; rw [if_neg (by omega)]
theorem cT_n (i : Nat) : cT i (i + 1) = cT (i + 1) 0 := by
  funext m; unfold cT
  by_cases h : (m / 21 < i ∧ m % 21 ≤ m / 21) ∨ (m / 21 = i ∧ m % 21 < i + 1)
  · rw [if_pos h, if_pos (by omega)]
  · rw [if_neg h, if_neg (by omega)]
theorem cT_s {i j : Nat} (hj : j < 21) : zset (cT i j) (21 * i + j) ((kC i j : Nat) : Int) = cT i (j + 1) := by
  funext m; unfold zset cT
  by_cases e : m = 21 * i + j
  · rw [if_pos e, if_pos (by omega), show m / 21 = i by omega, show m % 21 = j by omega]
  · rw [if_neg e]
    by_cases h : (m / 21 < i ∧ m % 21 ≤ m / 21) ∨ (m / 21 = i ∧ m % 21 < j)
    · rw [if_pos h, if_pos (by omega)]
    · rw [if_neg h, if_neg (by omega)]
theorem cT_wr {D : zDa} {b i j k : Nat} {z : Int} (hj : j < 21) (hk : k = 21 * i + j) (hz : z = ((kC i j : Nat) : Int)) : zwr (zrow D b (cT i j)) b k z = zrow D b (cT i (j + 1)) := by
  subst hk hz
  funext a m
  unfold zwr zrow
  by_cases e : a = b
  · subst e
    rw [if_pos rfl, if_pos rfl, if_pos rfl, ← cT_s hj]; rfl
  · rw [if_neg e, if_neg e, if_neg e]
theorem cT_lo : ∀ i, i < 21 → ∀ j, j < 21 → kC i j ≤ 1000000 := by decide +kernel
theorem cT_sum : ∀ i, i < 21 → ∀ j, j < 21 → i < j → kC i j = 0 := by decide +kernel
theorem cT_at {D : zDa} {b i j p q m : Nat} (hp : p < i) (hi : i < 21) (hq : q < 21) (hm : m = 21 * p + q) : zrow D b (cT i j) b m = ((kC p q : Nat) : Int) := by
  subst hm
  unfold zrow cT
  rw [if_pos rfl, show (21 * p + q) / 21 = p by omega, show (21 * p + q) % 21 = q by omega]
  by_cases h : q ≤ p
  · rw [if_pos (by omega)]
  · rw [if_neg (by omega), cT_sum p (by omega) q hq (by omega)]; rfl
section CNL
variable {α : Type} {l : Launch} {E : zE} {d : Nat} {F : zFs} {D : zDa} {n sl : Nat} {cv : α → zRes} {x : Option α} {a b : Nat}
theorem cIf {Y : zY} {pc : Nat} {ls : zLs} {st : List zV} {M : zM} {c : Prop} [Decidable c] (h : zO l E d Y pc ls st M cv (if c then x else x)) : zO l E d Y pc ls st M cv x := by rwa [ite_self] at h
theorem cnLot_in (ha : (F a).1 = 3) (hf : (F a).2.2 0 = ((b : Nat) : Int)) (hb : (F b).1 = 20) (hl : (F b).2.1 = 441) {i : Nat} (hi : i < 21)
    (kk : ∀ v, zO l E d YX2_init 131 [(0, zR a), (1, zI ((i : Nat) : Int)), (2, v)] [] (F, zrow D b (cT (i + 1) 0), n, sl) cv x) :
    ∀ k j, j + k = i + 1 → 1 ≤ j → zO l E d YX2_init 80 [(0, zR a), (1, zI ((i : Nat) : Int)), (2, zI ((j : Nat) : Int))] [] (F, zrow D b (cT i j), n, sl) cv x
  | 0, j, e, _ => by
    refine zO_iload_n dX2_init_80 rfl ?_
    refine zO_iload_n dX2_init_81 rfl ?_
    refine cIf (zO_icmp_gt (tgt := 131) dX2_init_82 rfl (fun _ => ?_) (fun h => absurd (show ((i : Nat) : Int) < ((j : Nat) : Int) by omega) h))
    have ej : j = i + 1 := by omega
    subst ej
    rw [cT_n]
    exact kk _
  | k + 1, j, e, j1 => by
    have hgt : ∀ D' : zDa, zdec (tyX2 0) (zfv F D' a 2 0) = zR b := fun D' => by
      show zdec (tyX2 0) ((F a).2.2 0) = zR b
      rw [hf]; exact zq_nat b
    refine zO_iload_n dX2_init_80 rfl ?_
    refine zO_iload_n dX2_init_81 rfl ?_
    refine cIf (zO_icmp_gt (tgt := 131) dX2_init_82 rfl (fun h => absurd h (by omega)) (fun _ => ?_))
    refine zO_aload_n dX2_init_85 rfl (zR_P _) ?_
    refine gt2 (k := 0) (v := zR b) dX2_init_86 wF_X2_11 (by decide) ha (hgt _) ?_
    refine zO_iload_n dX2_init_89 rfl ?_
    refine zO_bipush dX2_init_90 (by decide) ?_
    refine zO_imul dX2_init_92 (by omega) ?_
    refine zO_iload_n dX2_init_93 rfl ?_
    refine zO_iadd dX2_init_94 (by omega) ?_
    refine zO_aload_n dX2_init_95 rfl (zR_P _) ?_
    refine gt2 (k := 0) (v := zR b) dX2_init_96 wF_X2_11 (by decide) ha (hgt _) ?_
    refine zO_iload_n dX2_init_99 rfl ?_
    refine zO_iconst dX2_init_100 (by decide) ?_
    refine zO_isub dX2_init_101 (by omega) ?_
    refine zO_bipush dX2_init_102 (by decide) ?_
    refine zO_imul dX2_init_104 (by omega) ?_
    refine zO_iload_n dX2_init_105 rfl ?_
    refine zO_iadd dX2_init_106 (by omega) ?_
    refine zO_iconst dX2_init_107 (by decide) ?_
    refine zO_isub dX2_init_108 (by omega) ?_
    refine zO_iald dX2_init_109 hb (by rw [hl]; omega) ?_
    refine zO_aload_n dX2_init_110 rfl (zR_P _) ?_
    refine gt2 (k := 0) (v := zR b) dX2_init_111 wF_X2_11 (by decide) ha (hgt _) ?_
    refine zO_iload_n dX2_init_114 rfl ?_
    refine zO_iconst dX2_init_115 (by decide) ?_
    refine zO_isub dX2_init_116 (by omega) ?_
    refine zO_bipush dX2_init_117 (by decide) ?_
    refine zO_imul dX2_init_119 (by omega) ?_
    refine zO_iload_n dX2_init_120 rfl ?_
    refine zO_iadd dX2_init_121 (by omega) ?_
    refine zO_iald dX2_init_122 hb (by rw [hl]; omega) ?_
    have e1 : zrow D b (cT i j) b ((((i : Nat) : Int) - 1) * 21 + ((j : Nat) : Int) - 1).toNat = ((kC (i - 1) (j - 1) : Nat) : Int) := cT_at (p := i - 1) (q := j - 1) (by omega) hi (by omega) (by omega)
    have e2 : zrow D b (cT i j) b ((((i : Nat) : Int) - 1) * 21 + ((j : Nat) : Int)).toNat = ((kC (i - 1) j : Nat) : Int) := cT_at (p := i - 1) (q := j) (by omega) hi (by omega) (by omega)
    rw [e1, e2]
    have b1 := cT_lo (i - 1) (by omega) (j - 1) (by omega)
    have b2 := cT_lo (i - 1) (by omega) j (by omega)
    refine zO_iadd dX2_init_123 (by omega) ?_
    refine zO_iast dX2_init_124 hb (by rw [hl]; omega) ?_
    have e3 : ((kC (i - 1) (j - 1) : Nat) : Int) + ((kC (i - 1) j : Nat) : Int) = ((kC i j : Nat) : Int) := by
      obtain ⟨i', rfl⟩ : ∃ i', i = i' + 1 := ⟨i - 1, by omega⟩
      obtain ⟨j', rfl⟩ : ∃ j', j = j' + 1 := ⟨j - 1, by omega⟩
      rw [show i' + 1 - 1 = i' by omega, show j' + 1 - 1 = j' by omega]
      show _ = ((kC i' j' + kC i' (j' + 1) : Nat) : Int)
      omega
    rw [cT_wr (i := i) (j := j) (by omega) (by omega) e3]
    refine zO_iinc dX2_init_125 rfl (by omega) (by decide) ?_
    refine zO_goto (tgt := 80) dX2_init_128 rfl ?_
    exact cnLot_in ha hf hb hl hi kk k (j + 1) (by omega) (by omega)
theorem cnLot_out (ha : (F a).1 = 3) (hf : (F a).2.2 0 = ((b : Nat) : Int)) (hb : (F b).1 = 20) (hl : (F b).2.1 = 441)
    (kk : ∀ v1 v2, zO l E d YX2_init 137 [(0, zR a), (1, v1), (2, v2)] [] (F, zrow D b cLotT, n, sl) cv x) :
    ∀ k i (L : zLs), i + k = 21 → (zget ([(0, zR a), (1, zI ((i : Nat) : Int))] ++ L) 1 = some (zI ((i : Nat) : Int))) → (k = 0 → ∃ v, L = [(2, v)]) → (L = [] ∨ ∃ v, L = [(2, v)]) → zO l E d YX2_init 62 ([(0, zR a), (1, zI ((i : Nat) : Int))] ++ L) [] (F, zrow D b (cT i 0), n, sl) cv x
  | 0, i, L, e, _, h0, _ => by
    obtain ⟨v, rfl⟩ := h0 rfl
    refine zO_iload_n dX2_init_62 rfl ?_
    refine zO_bipush dX2_init_63 (by decide) ?_
    refine cIf (zO_icmp_ge (tgt := 137) dX2_init_65 rfl (fun h => absurd h (by omega)) (fun _ => ?_))
    have ei : i = 21 := by omega
    subst ei
    exact kk _ _
  | k + 1, i, L, e, _, _, hL => by
    have hgt : ∀ D' : zDa, zdec (tyX2 0) (zfv F D' a 2 0) = zR b := fun D' => by
      show zdec (tyX2 0) ((F a).2.2 0) = zR b
      rw [hf]; exact zq_nat b
    refine zO_iload_n dX2_init_62 (by rcases hL with rfl | ⟨v, rfl⟩ <;> rfl) ?_
    refine zO_bipush dX2_init_63 (by decide) ?_
    refine cIf (zO_icmp_ge (tgt := 137) dX2_init_65 rfl (fun _ => ?_) (fun h => absurd (show ((i : Nat) : Int) < 21 by omega) h))
    refine zO_aload_n (v := zR a) dX2_init_68 (by rcases hL with rfl | ⟨v, rfl⟩ <;> rfl) (zR_P _) ?_
    refine gt2 (k := 0) (v := zR b) dX2_init_69 wF_X2_11 (by decide) ha (hgt _) ?_
    refine zO_iload_n (z := ((i : Nat) : Int)) dX2_init_72 (by rcases hL with rfl | ⟨v, rfl⟩ <;> rfl) ?_
    refine zO_bipush dX2_init_73 (by decide) ?_
    refine zO_imul dX2_init_75 (by omega) ?_
    refine zO_iconst dX2_init_76 (by decide) ?_
    refine zO_iast dX2_init_77 hb (by rw [hl]; omega) ?_
    rw [cT_wr (i := i) (j := 0) (by omega) (by omega) (by cases i <;> rfl)]
    refine zO_iconst dX2_init_78 (by decide) ?_
    refine zO_istore_n dX2_init_79 (by decide) ?_
    have hp : zput1 ([(0, zR a), (1, zI ((i : Nat) : Int))] ++ L) 2 (zI 1) = [(0, zR a), (1, zI ((i : Nat) : Int)), (2, zI 1)] := by rcases hL with rfl | ⟨v, rfl⟩ <;> rfl
    show zO l E d YX2_init 80 (zput1 ([(0, zR a), (1, zI ((i : Nat) : Int))] ++ L) 2 (zI 1)) [] _ cv x
    rw [hp]
    refine cnLot_in ha hf hb hl (i := i) (by omega) (fun v => ?_) i 1 (by omega) (by omega)
    refine zO_iinc dX2_init_131 rfl (by omega) (by decide) ?_
    refine zO_goto (tgt := 62) dX2_init_134 rfl ?_
    exact cnLot_out ha hf hb hl kk k (i + 1) [(2, v)] (by omega) rfl (fun _ => ⟨v, rfl⟩) (Or.inr ⟨v, rfl⟩)
theorem cnLot (ha : (F a).1 = 3) (hf : (F a).2.2 0 = ((b : Nat) : Int)) (hb : (F b).1 = 20) (hl : (F b).2.1 = 441) (h0 : D b = fun _ => 0)
    (kk : ∀ v1 v2, zO l E d YX2_init 137 [(0, zR a), (1, v1), (2, v2)] [] (F, zrow D b cLotT, n, sl) cv x) :
    zO l E d YX2_init 61 [(0, zR a)] [zI 0] (F, D, n, sl) cv x := by
  refine zO_istore_n dX2_init_61 (by decide) ?_
  have h := cnLot_out ha hf hb hl kk 21 0 [] (by omega) rfl (fun h => absurd h (by decide)) (Or.inl rfl)
  rw [cT_0, ← h0] at h
  have e : zrow D b (D b) = D := by
    funext y; unfold zrow
    by_cases q : y = b
    · rw [if_pos q, q]
    · rw [if_neg q]
  rw [e] at h
  exact h
end CNL
