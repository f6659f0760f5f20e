/-! numbers: an Int32 (Int64) by its integer -/
def iI (z : Int) : Int32 := Int32.ofInt z
def lI (z : Int) : Int64 := Int64.ofInt z
theorem iI_add (a b : Int) : iI a + iI b = iI (a + b) := (Int32.ofInt_add a b).symm
theorem iI_sub (a b : Int) : iI a - iI b = iI (a - b) := (Int32.ofInt_sub a b).symm
theorem iI_mul (a b : Int) : iI a * iI b = iI (a * b) := (Int32.ofInt_mul a b).symm
theorem lI_add (a b : Int) : lI a + lI b = lI (a + b) := (Int64.ofInt_add a b).symm
theorem lI_sub (a b : Int) : lI a - lI b = lI (a - b) := (Int64.ofInt_sub a b).symm
theorem lI_mul (a b : Int) : lI a * lI b = lI (a * b) := (Int64.ofInt_mul a b).symm
theorem iI_toInt {a : Int} (h1 : -2147483648 ≤ a) (h2 : a < 2147483648) : (iI a).toInt = a := Int32.toInt_ofInt_of_le h1 h2
theorem lI_toInt {a : Int} (h1 : -9223372036854775808 ≤ a) (h2 : a < 9223372036854775808) : (lI a).toInt = a := Int64.toInt_ofInt_of_le h1 h2
theorem iI_of (x : Int32) : x = iI x.toInt := (Int32.ofInt_toInt x).symm
theorem iI_ex (x : Int32) : ∃ z : Int, -2147483648 ≤ z ∧ z < 2147483648 ∧ x = iI z :=
  ⟨x.toInt, by have := Int32.minValue_le_toInt x; simpa using this, by have := Int32.toInt_lt x; omega, iI_of x⟩
theorem iI_le {a b : Int} (h1 : -2147483648 ≤ a) (h2 : a < 2147483648) (h3 : -2147483648 ≤ b) (h4 : b < 2147483648) : iI a ≤ iI b ↔ a ≤ b := by
  rw [Int32.le_iff_toInt_le, iI_toInt h1 h2, iI_toInt h3 h4]
theorem iI_lt {a b : Int} (h1 : -2147483648 ≤ a) (h2 : a < 2147483648) (h3 : -2147483648 ≤ b) (h4 : b < 2147483648) : iI a < iI b ↔ a < b := by
  rw [Int32.lt_iff_toInt_lt, iI_toInt h1 h2, iI_toInt h3 h4]
theorem iI_eq {a b : Int} (h1 : -2147483648 ≤ a) (h2 : a < 2147483648) (h3 : -2147483648 ≤ b) (h4 : b < 2147483648) : iI a = iI b ↔ a = b := by
  rw [← Int32.toInt_inj, iI_toInt h1 h2, iI_toInt h3 h4]
theorem lI_le {a b : Int} (h1 : -9223372036854775808 ≤ a) (h2 : a < 9223372036854775808) (h3 : -9223372036854775808 ≤ b) (h4 : b < 9223372036854775808) : lI a ≤ lI b ↔ a ≤ b := by
  rw [Int64.le_iff_toInt_le, lI_toInt h1 h2, lI_toInt h3 h4]
theorem lI_lt {a b : Int} (h1 : -9223372036854775808 ≤ a) (h2 : a < 9223372036854775808) (h3 : -9223372036854775808 ≤ b) (h4 : b < 9223372036854775808) : lI a < lI b ↔ a < b := by
  rw [Int64.lt_iff_toInt_lt, lI_toInt h1 h2, lI_toInt h3 h4]
theorem lI_eq {a b : Int} (h1 : -9223372036854775808 ≤ a) (h2 : a < 9223372036854775808) (h3 : -9223372036854775808 ≤ b) (h4 : b < 9223372036854775808) : lI a = lI b ↔ a = b := by
  rw [← Int64.toInt_inj, lI_toInt h1 h2, lI_toInt h3 h4]
theorem iI_cl {a : Int} (h1 : -2147483648 ≤ a) (h2 : a < 2147483648) : (iI a).toNatClampNeg = a.toNat := Int32.toNatClampNeg_ofInt_of_le h1 h2
theorem iI_clN {a : Nat} (h2 : a < 2147483648) : (iI (a : Int)).toNatClampNeg = a := by rw [iI_cl (by omega) (by omega)]; omega
theorem iI_in {a : Int} {n : Nat} (h1 : 0 ≤ a) (h2 : a < n) (h3 : n < 2147483648) : vp_in (iI a) n := by
  rw [vp_in_iff, iI_toInt (by omega) (by omega)]; exact ⟨h1, h2⟩
theorem iI_nI (n : Nat) : nI n = iI (n : Int) := (Int32.ofInt_eq_ofNat).symm
theorem iI_l {a : Int} (h1 : -2147483648 ≤ a) (h2 : a < 2147483648) : (iI a).toInt64 = lI a := by
  rw [← Int64.toInt_inj, Int32.toInt_toInt64, iI_toInt h1 h2, lI_toInt (by omega) (by omega)]
theorem lI_i (a : Int) (h1 : -9223372036854775808 ≤ a) (h2 : a < 9223372036854775808) : (lI a).toInt32 = iI a := by
  rw [← Int32.toInt_inj, Int64.toInt_toInt32, lI_toInt h1 h2]
  unfold iI
  rw [Int32.toInt_ofInt]
theorem iI_max {a b : Int} (h1 : -2147483648 ≤ a) (h2 : a < 2147483648) (h3 : -2147483648 ≤ b) (h4 : b < 2147483648) : (if iI a < iI b then iI b else iI a) = iI (max a b) := by
  by_cases h : a < b
  · rw [if_pos ((iI_lt h1 h2 h3 h4).mpr h), Int.max_eq_right (by omega)]
  · rw [if_neg (fun q => h ((iI_lt h1 h2 h3 h4).mp q)), Int.max_eq_left (by omega)]
theorem iI_min {a b : Int} (h1 : -2147483648 ≤ a) (h2 : a < 2147483648) (h3 : -2147483648 ≤ b) (h4 : b < 2147483648) : (if iI b < iI a then iI b else iI a) = iI (min a b) := by
  by_cases h : b < a
  · rw [if_pos ((iI_lt h3 h4 h1 h2).mpr h), Int.min_eq_right (by omega)]
  · rw [if_neg (fun q => h ((iI_lt h3 h4 h1 h2).mp q)), Int.min_eq_left (by omega)]
/-! folds of a commutative operation -/
def bo {α : Type} (op : α → α → α) (e : α) (h : Nat → α) : Nat → α
  | 0 => e
  | n + 1 => op (bo op e h n) (h n)
theorem bo_congr {α : Type} {op : α → α → α} {e : α} {h h' : Nat → α} {n : Nat} (H : ∀ k, k < n → h k = h' k) : bo op e h n = bo op e h' n := by
  induction n with
  | zero => rfl
  | succ n ih =>
    simp only [bo]
    rw [ih (fun k hk => H k (by omega)), H n (by omega)]
theorem bo_e {α : Type} {op : α → α → α} {e : α} (he : ∀ a, op a e = a) (n : Nat) : bo op e (fun _ => e) n = e := by
  induction n with
  | zero => rfl
  | succ n ih => simp only [bo]; rw [ih, he]
theorem bo_op {α : Type} {op : α → α → α} {e : α} (ha : ∀ a b c, op (op a b) c = op a (op b c)) (hc : ∀ a b, op a b = op b a) (he : ∀ a, op a e = a) (f g : Nat → α) (n : Nat) : bo op e (fun k => op (f k) (g k)) n = op (bo op e f n) (bo op e g n) := by
  induction n with
  | zero => simp only [bo]; rw [he]
  | succ n ih =>
    simp only [bo]
    rw [ih, ha, ha, ← ha (bo op e g n), hc (bo op e g n) (f n), ha]
theorem bo_swap {α : Type} {op : α → α → α} {e : α} (ha : ∀ a b c, op (op a b) c = op a (op b c)) (hc : ∀ a b, op a b = op b a) (he : ∀ a, op a e = a) (h : Nat → Nat → α) (n m : Nat) : bo op e (fun i => bo op e (fun j => h i j) m) n = bo op e (fun j => bo op e (fun i => h i j) n) m := by
  induction n with
  | zero => simp only [bo]; rw [bo_e he]
  | succ n ih =>
    simp only [bo]
    rw [ih, ← bo_op ha hc he]
theorem bo_act {α : Type} {op : α → α → α} {e : α} (a : α → α) (h0 : a e = e) (h1 : ∀ x y, a (op x y) = op (a x) (a y)) (h : Nat → α) (n : Nat) : a (bo op e h n) = bo op e (fun k => a (h k)) n := by
  induction n with
  | zero => simp only [bo]; exact h0
  | succ n ih => simp only [bo]; rw [h1, ih]
theorem bo_ite {α : Type} {op : α → α → α} {e : α} (he : ∀ a, op a e = a) (c : Prop) [Decidable c] (h : Nat → α) (n : Nat) : (if c then bo op e h n else e) = bo op e (fun k => if c then h k else e) n := by
  by_cases hc : c
  · simp only [if_pos hc]
  · simp only [if_neg hc]; rw [bo_e he]
/-- so many of a thing of price P (fewer than n), each count k acting by act k -/
def cv {α : Type} (op : α → α → α) (e : α) (act : Nat → α → α) (P : Nat) (f : Nat → α) (n : Nat) (s : Nat) : α := bo op e (fun k => if k * P ≤ s then act k (f (s - k * P)) else e) n
theorem cv_comm {α : Type} {op : α → α → α} {e : α} (ha : ∀ a b c, op (op a b) c = op a (op b c)) (hc : ∀ a b, op a b = op b a) (he : ∀ a, op a e = a) (a1 a2 : Nat → α → α) (h1 : ∀ k, a1 k e = e) (h2 : ∀ k, a2 k e = e) (d1 : ∀ k x y, a1 k (op x y) = op (a1 k x) (a1 k y)) (d2 : ∀ k x y, a2 k (op x y) = op (a2 k x) (a2 k y)) (hcm : ∀ k j x, a1 k (a2 j x) = a2 j (a1 k x)) (P1 P2 n1 n2 : Nat) (f : Nat → α) (s : Nat) :
    cv op e a1 P1 (fun s => cv op e a2 P2 f n2 s) n1 s = cv op e a2 P2 (fun s => cv op e a1 P1 f n1 s) n2 s := by
  have L : ∀ (a1 a2 : Nat → α → α) (h1 : ∀ k, a1 k e = e) (d1 : ∀ k x y, a1 k (op x y) = op (a1 k x) (a1 k y)) (P1 P2 n1 n2 : Nat), cv op e a1 P1 (fun s => cv op e a2 P2 f n2 s) n1 s = bo op e (fun k => bo op e (fun j => if k * P1 ≤ s then a1 k (if j * P2 ≤ s - k * P1 then a2 j (f (s - k * P1 - j * P2)) else e) else e) n2) n1 := by
    intro a1 a2 h1 d1 P1 P2 n1 n2
    unfold cv
    refine bo_congr fun k _ => ?_
    rw [bo_act (a1 k) (h1 k) (d1 k), bo_ite he]
  rw [L a1 a2 h1 d1, L a2 a1 h2 d2, bo_swap ha hc he]
  refine bo_congr fun j _ => bo_congr fun k _ => ?_
  generalize k * P1 = x
  generalize j * P2 = y
  by_cases hx : x ≤ s
  · by_cases hy : y ≤ s
    · rw [if_pos hx, if_pos hy]
      by_cases hxy : x + y ≤ s
      · rw [if_pos (by omega), if_pos (by omega), hcm, show s - x - y = s - y - x by omega]
      · rw [if_neg (by omega), if_neg (by omega), h1, h2]
    · rw [if_pos hx, if_neg hy, if_neg (by omega), h1]
  · by_cases hy : y ≤ s
    · rw [if_neg hx, if_pos hy, if_neg (by omega), h2]
    · rw [if_neg hx, if_neg hy]
/-- the greater of two, none below all -/
def omax : Option Int → Option Int → Option Int
  | none, b => b
  | some a, none => some a
  | some a, some b => some (if a ≤ b then b else a)
theorem omax_none (a : Option Int) : omax a none = a := by cases a <;> rfl
theorem omax_comm (a b : Option Int) : omax a b = omax b a := by
  cases a <;> cases b <;> simp only [omax]
  congr 1
  split <;> split <;> omega
theorem omax_assoc (a b c : Option Int) : omax (omax a b) c = omax a (omax b c) := by
  cases a <;> cases b <;> cases c <;> simp only [omax]
  congr 1
  split <;> split <;> (try split) <;> (try split) <;> omega
/-- best ranks with up to n - 1 of a thing of price P, k of them gaining g k -/
def mo (P : Nat) (g : Nat → Int) (n : Nat) (f : Nat → Option Int) : Nat → Option Int := fun s => cv omax none (fun k x => x.map (fun v => v + g k)) P f n s
def wo (P n : Nat) (f : Nat → Int32) : Nat → Int32 := fun s => cv (fun a b => a + b) 0 (fun _ x => x) P f n s
theorem mo_comm (P1 P2 : Nat) (g1 g2 : Nat → Int) (n1 n2 : Nat) (f : Nat → Option Int) : mo P1 g1 n1 (mo P2 g2 n2 f) = mo P2 g2 n2 (mo P1 g1 n1 f) := by
  funext s
  exact cv_comm omax_assoc omax_comm omax_none _ _ (fun _ => rfl) (fun _ => rfl) (fun k x y => by
    cases x <;> cases y <;> simp only [omax, Option.map]
    congr 1
    split <;> split <;> omega) (fun k x y => by
    cases x <;> cases y <;> simp only [omax, Option.map]
    congr 1
    split <;> split <;> omega) (fun k j x => by
    cases x <;> simp only [Option.map]
    congr 1
    omega) P1 P2 n1 n2 f s
theorem wo_comm (P1 P2 n1 n2 : Nat) (f : Nat → Int32) : wo P1 n1 (wo P2 n2 f) = wo P2 n2 (wo P1 n1 f) := by
  funext s
  exact cv_comm (op := fun a b : Int32 => a + b) (e := 0) Int32.add_assoc Int32.add_comm (fun a => Int32.add_zero a) (fun _ x => x) (fun _ x => x) (fun _ => rfl) (fun _ => rfl) (fun _ _ _ => rfl) (fun _ _ _ => rfl) (fun _ _ _ => rfl) P1 P2 n1 n2 f s
/-! a row of operations, from the first or from the last on -/
def fwd {F : Type} (T : Nat → F → F) : Nat → F → F
  | 0, f => f
  | n + 1, f => T n (fwd T n f)
def bwd {F : Type} (T : Nat → F → F) : Nat → Nat → F → F
  | _, 0, f => f
  | t, n + 1, f => T t (bwd T (t + 1) n f)
theorem bwd_pull {F : Type} (T : Nat → F → F) (hc : ∀ i j f, T i (T j f) = T j (T i f)) (m : Nat) : ∀ (n t : Nat) (f : F), T m (bwd T t n f) = bwd T t n (T m f) := by
  intro n
  induction n with
  | zero => intro t f; rfl
  | succ n ih =>
    intro t f
    simp only [bwd]
    rw [hc, ih]
theorem bwd_last {F : Type} (T : Nat → F → F) : ∀ (n t : Nat) (f : F), bwd T t (n + 1) f = bwd T t n (T (t + n) f) := by
  intro n
  induction n with
  | zero => intro t f; rfl
  | succ n ih =>
    intro t f
    rw [bwd, ih (t + 1) f, bwd, show t + 1 + n = t + (n + 1) by omega]
theorem fwd_bwd {F : Type} (T : Nat → F → F) (hc : ∀ i j f, T i (T j f) = T j (T i f)) : ∀ (n : Nat) (f : F), fwd T n f = bwd T 0 n f := by
  intro n
  induction n with
  | zero => intro f; rfl
  | succ n ih =>
    intro f
    rw [fwd, ih, bwd_pull T hc, bwd_last]
    simp only [Nat.zero_add]
