/-! ===== sums ===== -/
def zsum (n : Nat) (f : Nat → Int) : Int := match n with
  | 0 => 0
  | n + 1 => zsum n f + f n
theorem zsum_congr {n : Nat} {f g : Nat → Int} (h : ∀ k, k < n → f k = g k) : zsum n f = zsum n g := by
  induction n with
  | zero => rfl
  | succ n ih => unfold zsum; rw [ih (fun k hk => h k (by omega)), h n (by omega)]
theorem zsum_first (n : Nat) (f : Nat → Int) : zsum (n + 1) f = f 0 + zsum n (fun k => f (k + 1)) := by
  induction n with
  | zero => simp [zsum]
  | succ n ih =>
    have e : zsum (n + 1 + 1) f = zsum (n + 1) f + f (n + 1) := rfl
    rw [e, ih]
    have e2 : zsum (n + 1) (fun k => f (k + 1)) = zsum n (fun k => f (k + 1)) + f (n + 1) := rfl
    rw [e2]; omega
theorem zsum_rev (n : Nat) (f : Nat → Int) : zsum (n + 1) (fun k => f (n - k)) = zsum (n + 1) f := by
  induction n with
  | zero => rfl
  | succ n ih =>
    rw [zsum_first]
    have e : zsum (n + 1) (fun k => f (n + 1 - (k + 1))) = zsum (n + 1) (fun k => f (n - k)) := zsum_congr (fun k hk => by rw [show n + 1 - (k + 1) = n - k by omega])
    rw [e, ih]
    have e2 : zsum (n + 1 + 1) f = zsum (n + 1) f + f (n + 1) := rfl
    rw [e2, show n + 1 - 0 = n + 1 by omega]; omega
theorem zsum_add (n : Nat) (f g : Nat → Int) : zsum n (fun k => f k + g k) = zsum n f + zsum n g := by
  induction n with
  | zero => rfl
  | succ n ih => unfold zsum; rw [ih]; omega
theorem zsum_mul (n : Nat) (c : Int) (f : Nat → Int) : zsum n (fun k => c * f k) = c * zsum n f := by
  induction n with
  | zero => simp [zsum]
  | succ n ih => unfold zsum; rw [ih, Int.mul_add]
theorem zsum_0 {n : Nat} {f : Nat → Int} (h : ∀ k, k < n → f k = 0) : zsum n f = 0 := by
  induction n with
  | zero => rfl
  | succ n ih => unfold zsum; rw [ih (fun k hk => h k (by omega)), h n (by omega)]; rfl
theorem zsum_nn {n : Nat} {f : Nat → Int} (h : ∀ k, k < n → 0 ≤ f k) : 0 ≤ zsum n f := by
  induction n with
  | zero => exact Int.le_refl _
  | succ n ih => unfold zsum; have := ih (fun k hk => h k (by omega)); have := h n (by omega); omega
theorem zsum_le {n : Nat} {f : Nat → Int} {B : Int} (h : ∀ k, k < n → f k ≤ B) : zsum n f ≤ (n : Int) * B := by
  induction n with
  | zero => simp [zsum]
  | succ n ih =>
    unfold zsum
    have h1 := ih (fun k hk => h k (by omega))
    have h2 := h n (by omega)
    have e : ((n + 1 : Nat) : Int) * B = (n : Int) * B + B := by rw [show ((n + 1 : Nat) : Int) = (n : Int) + 1 by omega, Int.add_mul, Int.one_mul]
    omega
/-- over a triangle -/
theorem tri_succ (n : Nat) (G : Nat → Nat → Int) : zsum (n + 1) (fun a => zsum (n + 1 - a) (fun b => G a b)) = zsum n (fun a => zsum (n - a) (fun b => G a b)) + zsum (n + 1) (fun a => G a (n - a)) := by
  have e1 : zsum (n + 1) (fun a => zsum (n + 1 - a) (fun b => G a b)) = zsum n (fun a => zsum (n + 1 - a) (fun b => G a b)) + zsum (n + 1 - n) (fun b => G n b) := rfl
  have e2 : zsum n (fun a => zsum (n + 1 - a) (fun b => G a b)) = zsum n (fun a => zsum (n - a) (fun b => G a b) + G a (n - a)) := zsum_congr (fun a ha => by rw [show n + 1 - a = (n - a) + 1 by omega]; rfl)
  have e3 : zsum (n + 1) (fun a => G a (n - a)) = zsum n (fun a => G a (n - a)) + G n (n - n) := rfl
  rw [e1, e2, zsum_add, e3, show n + 1 - n = 0 + 1 by omega, show n - n = 0 by omega]
  simp only [zsum]
  omega
theorem tri_swap (n : Nat) (G : Nat → Nat → Int) : zsum n (fun a => zsum (n - a) (fun b => G a b)) = zsum n (fun b => zsum (n - b) (fun a => G a b)) := by
  induction n with
  | zero => rfl
  | succ n ih =>
    have h2 := tri_succ n (fun b a => G a b)
    rw [tri_succ, h2, ih]
    have h3 := zsum_rev n (fun a => G a (n - a))
    rw [← h3]
    congr 1
    exact zsum_congr (fun k hk => by rw [show n - (n - k) = k by omega])
/-- so many of each level -/
def kTri (L : Nat) (g : Nat → Nat → Nat → Int) : Int := zsum (L + 1) (fun a => zsum (L + 1 - a) (fun b => g a b (L - a - b)))
theorem kTri_class (L : Nat) (g : Nat → Nat → Nat → Int) : kTri L g = zsum (L + 1) (fun b => zsum (L + 1 - b) (fun c => g (L - b - c) b c)) := by
  unfold kTri
  rw [tri_swap (L + 1) (fun a b => g a b (L - a - b))]
  refine zsum_congr (fun b hb => ?_)
  have h := zsum_rev (L - b) (fun c => g (L - b - c) b c)
  rw [show L + 1 - b = L - b + 1 by omega, ← h]
  refine zsum_congr (fun a ha => ?_)
  rw [show L - b - (L - b - a) = a by omega, show L - a - b = L - b - a by omega]
theorem kTri_congr {L : Nat} {g h : Nat → Nat → Nat → Int} (e : ∀ a b c, a + b + c = L → g a b c = h a b c) : kTri L g = kTri L h :=
  zsum_congr (fun a ha => zsum_congr (fun b hb => e a b _ (by omega)))
/-- how many ways times right ones, of bowls (B0, B1, B2), with so many (e0, e1, e2) lying there already -/
def kWays (B : Nat → Nat) (a b c : Nat) : Int := ((kC (B 0) a * kC (B 1) b * kC (B 2) c : Nat) : Int)
def kTerm3 (ch : Nat → Int) (B e : Nat → Nat) (A m : Nat) (a b c : Nat) : Int := kWays B a b c * kG ch (nOf (a + e 0) (b + e 1) (c + e 2)) A m
def kLots (ch : Nat → Int) (B e : Nat → Nat) (A L m : Nat) : Int := kTri L (kTerm3 ch B e A m)
