/-! counting over cells -/
theorem pg_cn_add (P : Nat → Prop) (m j : Nat) : pg_cn P (m + j) = pg_cn P m + pg_cn (fun t => P (m + t)) j := by
  induction j with
  | zero => exact (Int.add_zero _).symm
  | succ j ih =>
    rw [← Nat.add_assoc]
    simp only [pg_cn]
    rw [ih, Int.add_assoc]
theorem pg_sm_add (f : Nat → Int) (m j : Nat) : pg_sm f (m + j) = pg_sm f m + pg_sm (fun t => f (m + t)) j := by
  induction j with
  | zero => exact (Int.add_zero _).symm
  | succ j ih =>
    rw [← Nat.add_assoc]
    simp only [pg_sm]
    rw [ih, Int.add_assoc]
theorem pg_cn_rows (P : Nat → Prop) (K M : Nat) : pg_cn P (K * M) = pg_sm (fun i => pg_cn (fun j => P (i * M + j)) M) K := by
  induction K with
  | zero => rw [Nat.zero_mul]; rfl
  | succ K ih =>
    rw [Nat.add_mul, Nat.one_mul, pg_cn_add, ih]
    rfl
theorem pg_cn_per {P : Nat → Prop} {a : Nat} (h : ∀ j, P (j + a) ↔ P j) (q : Nat) : pg_cn P (q * a) = q * pg_cn P a := by
  induction q with
  | zero => rw [Nat.zero_mul]; exact (Int.zero_mul _).symm
  | succ q ih =>
    have hq : ∀ (i j : Nat), P (i * a + j) ↔ P j := by
      intro i j
      induction i with
      | zero => rw [Nat.zero_mul, Nat.zero_add]
      | succ i ihi => rw [Nat.add_mul, Nat.one_mul, Nat.add_right_comm, h, ihi]
    rw [Nat.add_mul, Nat.one_mul, pg_cn_add, ih, pg_cn_iff (Q := P) (fun m _ => hq q m), Int.natCast_add, Int.add_mul]
    simp
theorem pg_sm_per {f : Nat → Int} {a : Nat} (h : ∀ j, f (j + a) = f j) (q : Nat) : pg_sm f (q * a) = q * pg_sm f a := by
  induction q with
  | zero => rw [Nat.zero_mul]; exact (Int.zero_mul _).symm
  | succ q ih =>
    have hq : ∀ (i j : Nat), f (i * a + j) = f j := by
      intro i j
      induction i with
      | zero => rw [Nat.zero_mul, Nat.zero_add]
      | succ i ihi => rw [Nat.add_mul, Nat.one_mul, Nat.add_right_comm, h, ihi]
    rw [Nat.add_mul, Nat.one_mul, pg_sm_add, ih, pg_sm_eq (g := f) (fun m _ => hq q m), Int.natCast_add, Int.add_mul]
    simp
theorem pg_sm_mul (f : Nat → Int) (c : Int) (m : Nat) : pg_sm (fun k => c * f k) m = c * pg_sm f m := by
  induction m with
  | zero => exact (Int.mul_zero _).symm
  | succ m ih => simp only [pg_sm]; rw [ih, Int.mul_add]
theorem pg_sm_ad2 (f g : Nat → Int) (m : Nat) : pg_sm (fun k => f k + g k) m = pg_sm f m + pg_sm g m := by
  induction m with
  | zero => rfl
  | succ m ih => simp only [pg_sm]; rw [ih]; omega
theorem pg_sm_b (P : Nat → Prop) (m : Nat) : pg_sm (fun k => pg_b (P k)) m = pg_cn P m := by
  induction m with
  | zero => rfl
  | succ m ih => simp only [pg_sm, pg_cn]; rw [ih]
/-- counting by rows and by columns -/
theorem pg_sm_swap (R : Nat → Nat → Prop) (K M : Nat) : pg_sm (fun x => pg_cn (fun y => R x y) M) K = pg_sm (fun y => pg_cn (fun x => R x y) K) M := by
  induction K with
  | zero =>
    show 0 = pg_sm (fun _ => 0) M
    induction M with
    | zero => rfl
    | succ M ih => simp only [pg_sm]; rw [← ih]; rfl
  | succ K ih =>
    simp only [pg_sm, pg_cn]
    rw [ih, pg_sm_ad2, pg_sm_b]
theorem pg_dm (K M : Nat) {x y : Nat} (hy : y < M) : (x * M + y) / M = x ∧ (x * M + y) % M = y := by
  have hM : 0 < M := by omega
  rw [Nat.add_comm, Nat.add_mul_div_right _ _ hM, Nat.add_mul_mod_self_right, Nat.div_eq_of_lt hy, Nat.mod_eq_of_lt hy, Nat.zero_add]
  exact ⟨rfl, rfl⟩
theorem pg_cn_dm (R : Nat → Nat → Prop) (K M : Nat) : pg_cn (fun m => R (m / M) (m % M)) (K * M) = pg_sm (fun x => pg_cn (fun y => R x y) M) K := by
  rw [pg_cn_rows]
  refine pg_sm_eq (fun i _ => pg_cn_iff (fun j hj => ?_))
  rw [(pg_dm K M hj).1, (pg_dm K M hj).2]
theorem pg_cn_swap (R : Nat → Nat → Prop) (K M : Nat) : pg_cn (fun m => R (m / M) (m % M)) (K * M) = pg_cn (fun m => R (m % K) (m / K)) (M * K) := by
  rw [pg_cn_dm, pg_cn_dm (fun x y => R y x) M K, pg_sm_swap]
/-- one to one onto: the same count -/
theorem pg_cn_bij {P Q : Nat → Prop} {N M : Nat} {f g : Nat → Nat} (h1 : ∀ m, m < N → P m → f m < M ∧ Q (f m) ∧ g (f m) = m) (h2 : ∀ m, m < M → Q m → g m < N ∧ P (g m) ∧ f (g m) = m) : pg_cn P N = pg_cn Q M := by
  refine Int.le_antisymm ?_ ?_
  · refine pg_cn_inj (f := f) (fun m hm hp => ⟨(h1 m hm hp).1, (h1 m hm hp).2.1⟩) (fun a b ha hb p q e => ?_)
    rw [← (h1 a ha p).2.2, e, (h1 b hb q).2.2]
  · refine pg_cn_inj (f := g) (fun m hm hp => ⟨(h2 m hm hp).1, (h2 m hm hp).2.1⟩) (fun a b ha hb p q e => ?_)
    rw [← (h2 a ha p).2.2, e, (h2 b hb q).2.2]
/-- a periodic set, pushed along -/
theorem pg_cn_push {P : Int → Prop} {a : Nat} (ha : 0 < a) (h : ∀ z, P (z + a) ↔ P z) (b : Int) : pg_cn (fun p => P ((p : Int) + b)) a = pg_cn (fun p => P (p : Int)) a := by
  have hm : ∀ (z q : Int), P (z + a * q) ↔ P z := by
    have hN : ∀ (q : Nat) (z : Int), P (z + a * (q : Int)) ↔ P z := by
      intro q
      induction q with
      | zero => intro z; rw [show (a : Int) * ((0 : Nat) : Int) = 0 from Int.mul_zero _, Int.add_zero]
      | succ q ih => intro z; rw [Int.natCast_add, Int.mul_add, ← Int.add_assoc, show (a : Int) * ((1 : Nat) : Int) = a from Int.mul_one _, h, ih]
    intro z q
    rcases (show 0 ≤ q ∨ 0 ≤ -q by omega) with hq | hq
    · have := hN q.toNat z
      rwa [Int.toNat_of_nonneg hq] at this
    · have := hN (-q).toNat (z + a * q)
      rw [Int.toNat_of_nonneg hq, Int.add_assoc, ← Int.mul_add, Int.add_right_neg, Int.mul_zero, Int.add_zero] at this
      exact this.symm
  have he : ∀ z : Int, P (z % a) ↔ P z := fun z => by
    have := hm (z % a) (z / a)
    rw [Int.emod_add_mul_ediv] at this
    exact this.symm
  have hb : ∀ z : Int, 0 ≤ z % (a : Int) ∧ z % (a : Int) < a := fun z => mt_mod (by omega) z
  have hc : ∀ z w : Int, (z % (a : Int) + w) % (a : Int) = (z + w) % (a : Int) := fun z w => Int.emod_add_emod _ _ _
  refine pg_cn_bij (f := fun p => (((p : Int) + b) % a).toNat) (g := fun p => (((p : Int) - b) % a).toNat) (fun m hm hp => ?_) (fun m hm hp => ?_)
  · have h1 := hb ((m : Int) + b)
    refine ⟨by show (((m : Int) + b) % a).toNat < a; omega, ?_, ?_⟩
    · show P (((((m : Int) + b) % a).toNat : Nat) : Int)
      rw [show (((((m : Int) + b) % a).toNat : Nat) : Int) = ((m : Int) + b) % a by omega, he]
      exact hp
    · show (((((((m : Int) + b) % a).toNat : Nat) : Int) - b) % a).toNat = m
      rw [show (((((m : Int) + b) % a).toNat : Nat) : Int) = ((m : Int) + b) % a by omega, Int.sub_eq_add_neg, hc, show (m : Int) + b + -b = m by omega, Int.emod_eq_of_lt (by omega) (by omega)]
      omega
  · have h1 := hb ((m : Int) - b)
    refine ⟨by show (((m : Int) - b) % a).toNat < a; omega, ?_, ?_⟩
    · show P (((((m : Int) - b) % a).toNat : Nat) + b)
      rw [show (((((m : Int) - b) % a).toNat : Nat) : Int) = ((m : Int) - b) % a by omega, ← he, hc, he, show (m : Int) - b + b = m by omega]
      exact hp
    · show (((((((m : Int) - b) % a).toNat : Nat) : Int) + b) % a).toNat = m
      rw [show (((((m : Int) - b) % a).toNat : Nat) : Int) = ((m : Int) - b) % a by omega, hc, show (m : Int) - b + b = m by omega, Int.emod_eq_of_lt (by omega) (by omega)]
      omega
/-- a set that the steps (a, 0), (b, c) keep: counted over N by N and over the cell -/
theorem gr_fold {N a c A C : Nat} {b : Int} (ha : 0 < a) (hc : 0 < c) (hA : N = A * a) (hC : N = C * c) {Q : Int → Int → Prop} (hQa : ∀ p q, Q (p + a) q ↔ Q p q) (hQc : ∀ p q, Q (p + b) (q + c) ↔ Q p q) : pg_cn (fun i => Q ((i % N : Nat) : Int) ((i / N : Nat) : Int)) (N * N) = C * (A * pg_cn (fun i => Q ((i % a : Nat) : Int) ((i / a : Nat) : Int)) (c * a)) := by
  rw [pg_cn_dm (fun q p => Q (p : Int) (q : Int)) N N, pg_cn_dm (fun q p => Q (p : Int) (q : Int)) c a]
  have h1 : ∀ q : Int, pg_cn (fun p => Q (p : Int) q) N = A * pg_cn (fun p => Q (p : Int) q) a := by
    intro q
    rw [hA]
    exact pg_cn_per (fun j => by rw [Int.natCast_add]; exact hQa _ _) A
  have h2 : ∀ q : Int, pg_cn (fun p => Q (p : Int) (q + c)) a = pg_cn (fun p => Q (p : Int) q) a := by
    intro q
    rw [← pg_cn_push (P := fun p => Q p (q + c)) ha (fun z => hQa z _) b]
    exact pg_cn_iff (fun m _ => hQc _ _)
  rw [pg_sm_eq (g := fun q => A * pg_cn (fun p => Q (p : Int) (q : Int)) a) (fun k _ => h1 (k : Int)), pg_sm_mul, hC]
  rw [pg_sm_per (f := fun q => pg_cn (fun p => Q (p : Int) (q : Int)) a) (fun j => by rw [Int.natCast_add]; exact h2 _) C, ← Int.mul_assoc, Int.mul_comm (A : Int), Int.mul_assoc]
