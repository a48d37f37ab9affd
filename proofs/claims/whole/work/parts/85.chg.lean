/-! changes -/
def gr_T (s k u v : Int) (p : Int × Int) : Int × Int := (mt_x s k p.1 p.2 + u, mt_y s k p.1 p.2 + v)
def gr_Ti (s k u v : Int) : Nat → Int × Int → Int × Int
  | 0, p => p
  | j + 1, p => gr_T s k u v (gr_Ti s k u v j p)
theorem gr_Ti_add (s k u v : Int) (i j : Nat) (p : Int × Int) : gr_Ti s k u v (i + j) p = gr_Ti s k u v i (gr_Ti s k u v j p) := by
  induction i with
  | zero => rw [Nat.zero_add]; rfl
  | succ i ih => rw [Nat.add_right_comm]; simp only [gr_Ti]; rw [ih]
theorem gr_Ti_lin (s k u v : Int) (j : Nat) (p q : Int × Int) : gr_Ti s k u v j (p.1 + q.1, p.2 + q.2) = ((gr_Ti s k u v j p).1 + (gr_Ti s k 0 0 j q).1, (gr_Ti s k u v j p).2 + (gr_Ti s k 0 0 j q).2) := by
  induction j with
  | zero => rfl
  | succ j ih =>
    simp only [gr_Ti]
    rw [ih]
    unfold gr_T
    simp only
    rw [(gr_lin s k _ _ _ _).1, (gr_lin s k _ _ _ _).2]
    refine Prod.ext ?_ ?_
    · show _ + _ + u = _ + u + (_ + 0); omega
    · show _ + _ + v = _ + v + (_ + 0); omega
theorem gr_Ti_bas (s k : Int) (j : Nat) (x y : Int) : gr_Ti s k 0 0 j (x, y) = (x * (gr_Ti s k 0 0 j (1, 0)).1 + y * (gr_Ti s k 0 0 j (0, 1)).1, x * (gr_Ti s k 0 0 j (1, 0)).2 + y * (gr_Ti s k 0 0 j (0, 1)).2) := by
  induction j with
  | zero =>
    simp only [gr_Ti]
    refine Prod.ext ?_ ?_
    · show x = x * 1 + y * 0; omega
    · show y = x * 0 + y * 1; omega
  | succ j ih =>
    simp only [gr_Ti]
    rw [ih]
    unfold gr_T
    simp only
    rw [(gr_lin s k _ _ _ _).1, (gr_lin s k _ _ _ _).2, (gr_sc s k _ _ _).1, (gr_sc s k _ _ _).2, (gr_sc s k _ _ _).1, (gr_sc s k _ _ _).2]
    simp only [Int.add_zero]
theorem gr_12 : ∀ s : Fin 2, ∀ k : Fin 12, (k.val : Int) < 2 * mt_rd (s.val : Int) → gr_Ti (s.val : Int) (k.val : Int) 0 0 12 (1, 0) = (1, 0) ∧ gr_Ti (s.val : Int) (k.val : Int) 0 0 12 (0, 1) = (0, 1) := by decide +kernel
theorem gr_Ti12 {s k : Int} (hs : s = 0 ∨ s = 1) (hk : 0 ≤ k ∧ k < 2 * mt_rd s) (u v : Int) (p : Int × Int) : gr_Ti s k u v 12 p = (p.1 + (gr_Ti s k u v 12 (0, 0)).1, p.2 + (gr_Ti s k u v 12 (0, 0)).2) := by
  have hr := mt_rd_or hs
  have h := gr_12 ⟨s.toNat, by omega⟩ ⟨k.toNat, by omega⟩
  simp only at h
  rw [show ((s.toNat : Nat) : Int) = s by omega, Int.toNat_of_nonneg hk.1] at h
  have h1 := h hk.2
  have h2 := gr_Ti_lin s k u v 12 (0, 0) p
  have h3 := gr_Ti_bas s k 12 p.1 p.2
  rw [h1.1, h1.2] at h3
  simp only [Int.zero_add, Int.mul_one, Int.mul_zero, Int.add_zero] at h2 h3
  rw [h3] at h2
  rw [h2]
  exact Prod.ext (Int.add_comm _ _) (Int.add_comm _ _)
theorem gr_TiN {s k : Int} (hs : s = 0 ∨ s = 1) (hk : 0 ≤ k ∧ k < 2 * mt_rd s) (u v : Int) (i : Nat) (p : Int × Int) : gr_Ti s k u v (i * 12) p = (p.1 + (i : Int) * (gr_Ti s k u v 12 (0, 0)).1, p.2 + (i : Int) * (gr_Ti s k u v 12 (0, 0)).2) := by
  induction i with
  | zero =>
    rw [Nat.zero_mul]
    refine Prod.ext ?_ ?_
    · show p.1 = p.1 + 0 * _; rw [Int.zero_mul, Int.add_zero]
    · show p.2 = p.2 + 0 * _; rw [Int.zero_mul, Int.add_zero]
  | succ i ih =>
    rw [Nat.add_mul, Nat.one_mul, Nat.add_comm, gr_Ti_add, ih, gr_Ti12 hs hk]
    refine Prod.ext ?_ ?_
    · show p.1 + (i : Int) * _ + _ = p.1 + ((i + 1 : Nat) : Int) * _
      rw [Int.natCast_add, Int.add_mul, ← Int.add_assoc]
      simp
    · show p.2 + (i : Int) * _ + _ = p.2 + ((i + 1 : Nat) : Int) * _
      rw [Int.natCast_add, Int.add_mul, ← Int.add_assoc]
      simp
section
variable {col : Nat → Int} {s n k u v : Int}
def gr_con (col : Nat → Int) (s n k u v : Int) : Prop := ∀ p q : Int × Int, gr_C col n p.1 p.2 = gr_C col n q.1 q.2 → gr_C col n (gr_T s k u v p).1 (gr_T s k u v p).2 = gr_C col n (gr_T s k u v q).1 (gr_T s k u v q).2
theorem gr_tg (hn : 1 ≤ n) (x y : Int) : col (mt_tg s n k u v (x % n) (y % n)).toNat = gr_C col n (mt_x s k x y + u) (mt_y s k x y + v) := by
  unfold mt_tg gr_C
  rw [(gr_emod s k n u v x y).1, (gr_emod s k n u v x y).2]
theorem gr_con_iff (hn : 1 ≤ n) : mt_con col s n k u v ↔ gr_con col s n k u v := by
  constructor
  · intro h p q hpq
    have a := fun x => mt_mod hn x
    have h1 := h (p.1 % n) (p.2 % n) (q.1 % n) (q.2 % n) (a _).1 (a _).2 (a _).1 (a _).2 (a _).1 (a _).2 (a _).1 (a _).2 hpq
    rw [gr_tg (col := col) hn, gr_tg (col := col) hn] at h1
    exact h1
  · intro h x y x' y' h1 h2 h3 h4 h5 h6 h7 h8 he
    have e : ∀ x y : Int, 0 ≤ x → x < n → 0 ≤ y → y < n → gr_C col n x y = col (mt_pt n x y).toNat := fun x y a b c d => by unfold gr_C; rw [Int.emod_eq_of_lt a b, Int.emod_eq_of_lt c d]
    have h9 := h (x, y) (x', y') (by simp only; rw [e x y h1 h2 h3 h4, e x' y' h5 h6 h7 h8]; exact he)
    have g1 := gr_tg (col := col) (s := s) (k := k) (u := u) (v := v) hn x y
    have g2 := gr_tg (col := col) (s := s) (k := k) (u := u) (v := v) hn x' y'
    rw [Int.emod_eq_of_lt h1 h2, Int.emod_eq_of_lt h3 h4] at g1
    rw [Int.emod_eq_of_lt h5 h6, Int.emod_eq_of_lt h7 h8] at g2
    rw [g1, g2]
    exact h9
theorem gr_con_i (h : gr_con col s n k u v) (j : Nat) (p q : Int × Int) (hpq : gr_C col n p.1 p.2 = gr_C col n q.1 q.2) : gr_C col n (gr_Ti s k u v j p).1 (gr_Ti s k u v j p).2 = gr_C col n (gr_Ti s k u v j q).1 (gr_Ti s k u v j q).2 := by
  induction j with
  | zero => exact hpq
  | succ j ih => simp only [gr_Ti]; exact h _ _ ih
/-- a change never makes two colours one -/
theorem gr_con_inj (hs : s = 0 ∨ s = 1) (hn : 1 ≤ n) (hk : 0 ≤ k ∧ k < 2 * mt_rd s) (h : gr_con col s n k u v) (p q : Int × Int) (hpq : gr_C col n (gr_T s k u v p).1 (gr_T s k u v p).2 = gr_C col n (gr_T s k u v q).1 (gr_T s k u v q).2) : gr_C col n p.1 p.2 = gr_C col n q.1 q.2 := by
  have h1 := gr_con_i h (n.toNat * 12 - 1) _ _ hpq
  have e : ∀ r, gr_Ti s k u v (n.toNat * 12 - 1) (gr_T s k u v r) = gr_Ti s k u v (n.toNat * 12) r := by
    intro r
    have := gr_Ti_add s k u v (n.toNat * 12 - 1) 1 r
    rw [show n.toNat * 12 - 1 + 1 = n.toNat * 12 by omega] at this
    rw [this]
    rfl
  rw [e, e, gr_TiN hs hk, gr_TiN hs hk, show ((n.toNat : Nat) : Int) = n by omega] at h1
  have e2 : ∀ x y z w : Int, gr_C col n (x + n * z) (y + n * w) = gr_C col n x y := fun x y z w => gr_C_mod (Int.add_mul_emod_self_left _ _ _) (Int.add_mul_emod_self_left _ _ _)
  rw [e2, e2] at h1
  exact h1
theorem gr_C_at (hn : 1 ≤ n) {x y : Int} (h1 : 0 ≤ x) (h2 : x < n) (h3 : 0 ≤ y) (h4 : y < n) : gr_C col n x y = col (mt_pt n x y).toNat := by
  unfold gr_C
  rw [Int.emod_eq_of_lt h1 h2, Int.emod_eq_of_lt h3 h4]
theorem gr_C_bd (hn : 1 ≤ n ∧ n ≤ 12) (hC : ∀ p : Nat, p < 144 → 0 ≤ col p ∧ col p ≤ 9) (x y : Int) : 0 ≤ gr_C col n x y ∧ gr_C col n x y ≤ 9 := by
  have h := mt_pt_bd hn.1 hn.2 (mt_mod hn.1 x) (mt_mod hn.1 y)
  exact hC _ (by omega)
/-- the image of a colour is where its points go -/
theorem gr_img (hn : 1 ≤ n ∧ n ≤ 12) {im : Nat → Int} (hI : mt_img col s n k u v im) (x y : Int) : im (gr_C col n x y).toNat = gr_C col n (mt_x s k x y + u) (mt_y s k x y + v) := by
  have a := mt_mod hn.1 x
  have b := mt_mod hn.1 y
  have h := hI.1 (x % n) (y % n) a.1 a.2 b.1 b.2
  rw [gr_tg (col := col) hn.1] at h
  exact h
theorem gr_used (hn : 1 ≤ n ∧ n ≤ 12) {im : Nat → Int} (hI : mt_img col s n k u v im) {c : Nat} (hc : c < 10) (h : im c ≠ -1) : ∃ x y : Int, gr_C col n x y = c := by
  rcases Classical.em (∃ x y : Int, gr_C col n x y = c) with h1 | h1
  · exact h1
  · exfalso
    refine h (hI.2 c hc (fun x y k1 k2 k3 k4 he => h1 ⟨x, y, ?_⟩))
    rw [gr_C_at hn.1 k1 k2 k3 k4]
    exact he
theorem gr_chg (hs : s = 0 ∨ s = 1) (hn : 1 ≤ n ∧ n ≤ 12) (hk : 0 ≤ k ∧ k < 2 * mt_rd s) : mt_chg col s n k u v ↔ mt_con col s n k u v := by
  refine ⟨fun h => h.1, fun h => ⟨h, fun im hI c d hd hc => ?_⟩⟩
  rcases Classical.em (im c = -1) with h1 | h1
  · exact Or.inl h1
  · right
    intro he
    obtain ⟨x, y, hxy⟩ := gr_used hn hI hc h1
    obtain ⟨x', y', hxy'⟩ := gr_used hn hI (c := d) (by omega) (by rw [← he]; exact h1)
    have e1 := gr_img hn hI x y
    have e2 := gr_img hn hI x' y'
    rw [hxy, Int.toNat_natCast] at e1
    rw [hxy', Int.toNat_natCast] at e2
    have h2 := gr_con_inj hs hn.1 hk ((gr_con_iff hn.1).mp h) (x, y) (x', y') (by
      show gr_C col n (mt_x s k x y + u) (mt_y s k x y + v) = gr_C col n (mt_x s k x' y' + u) (mt_y s k x' y' + v)
      rw [← e1, ← e2, he])
    have h3 : gr_C col n x y = gr_C col n x' y' := h2
    rw [hxy, hxy'] at h3
    omega
end
