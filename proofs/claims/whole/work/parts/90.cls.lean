/-! classes of places -/
section
variable {col : Nat → Int} {s n : Int}
theorem gr_6m (n w z : Int) : (w + 6 * (z % n)) % (6 * n) = (w + 6 * z) % (6 * n) := by
  have h7 := Int.emod_add_mul_ediv z n
  generalize z / n = q at *
  generalize z % n = r at *
  rw [← h7, Int.mul_add, ← Int.mul_assoc, ← Int.add_assoc, Int.add_mul_emod_self_left]
theorem gr_pm_bd (hn : 1 ≤ n ∧ n ≤ 12) (m : Int) (i : Nat) : 0 ≤ mt_pm s n m i ∧ mt_pm s n m i < 6 * n * (6 * n) := mt_pl_bd hn.1 hn.2
theorem gr_pm_pr (hs : s = 0 ∨ s = 1) (hn : 1 ≤ n ∧ n ≤ 12) {a b : Int} (ha : 0 ≤ a ∧ a < 2 * mt_rd s * (n * n)) (hb : 0 ≤ b ∧ b < 2 * mt_rd s * (n * n)) (i : Nat) : mt_pm s n (mt_pr s n a b) i = mt_pm s n a (mt_pm s n b i).toNat := by
  have hka := mt_kof hn.1 ha
  have hkb := mt_kof hn.1 hb
  have hpb := gr_pm_bd (s := s) hn b i
  have e : (((mt_pm s n b i).toNat : Nat) : Int) = mt_pm s n b i := by omega
  have h1 := gr_tg2 (s := s) (N := 6 * n) (by omega) (a / (n * n)) (6 * (a / n % n)) (6 * (a % n)) (b / (n * n)) (6 * (b / n % n)) (6 * (b % n)) (i : Int)
  have e2 : mt_pm s n a (mt_pm s n b i).toNat = mt_pt (6 * n) ((mt_x s (a / (n * n)) (mt_x s (b / (n * n)) ((i : Int) % (6 * n)) ((i : Int) / (6 * n)) + 6 * (b / n % n)) (mt_y s (b / (n * n)) ((i : Int) % (6 * n)) ((i : Int) / (6 * n)) + 6 * (b % n)) + 6 * (a / n % n)) % (6 * n)) ((mt_y s (a / (n * n)) (mt_x s (b / (n * n)) ((i : Int) % (6 * n)) ((i : Int) / (6 * n)) + 6 * (b / n % n)) (mt_y s (b / (n * n)) ((i : Int) % (6 * n)) ((i : Int) / (6 * n)) + 6 * (b % n)) + 6 * (a % n)) % (6 * n)) := by
    rw [← h1]
    show mt_pl s n a _ _ = _
    rw [e]
    rfl
  rw [e2]
  show mt_tg s (6 * n) _ _ _ _ _ = _
  rw [(gr_pr_k hn _ _).1, (gr_pr_k hn _ _).2.1, (gr_pr_k hn _ _).2.2]
  unfold mt_tg
  rw [gr_6m, gr_6m, (gr_lp hs hka hkb _ _).1, (gr_lp hs hka hkb _ _).2, (gr_lin s _ _ _ _ _).1, (gr_lin s _ _ _ _ _).2, (gr_sc s _ _ _ _).1, (gr_sc s _ _ _ _).2, Int.mul_add, Int.mul_add, Int.add_assoc, Int.add_assoc]
theorem gr_pm_iv (hs : s = 0 ∨ s = 1) (hn : 1 ≤ n ∧ n ≤ 12) {a : Int} (ha : 0 ≤ a ∧ a < 2 * mt_rd s * (n * n)) {i : Nat} (hi : (i : Int) < 6 * n * (6 * n)) : mt_pm s n (mt_iv s n a) (mt_pm s n a i).toNat = i ∧ mt_pm s n a (mt_pm s n (mt_iv s n a) i).toNat = i := by
  have hN := mt_2rn hs hn
  have h0 : (0 : Int) ≤ 0 ∧ (0 : Int) < 2 * mt_rd s * (n * n) := by omega
  have hib := gr_iv_bd hs hn ha
  have e0 : mt_pm s n 0 i = i := mt_pm_0 hn (by omega)
  have hk := mt_kof hn.1 ha
  have hz : mt_pr s n (mt_iv s n a) a = 0 ∧ mt_pr s n a (mt_iv s n a) = 0 := by
    have zk : (0 : Int) / (n * n) = 0 := Int.zero_ediv _
    have zu : (0 : Int) / n % n = 0 := by rw [Int.zero_ediv, Int.zero_emod]
    have zv : (0 : Int) % n = 0 := Int.zero_emod _
    refine ⟨gr_mv_eq hn.1 ?_ ?_ ?_, gr_mv_eq hn.1 ?_ ?_ ?_⟩
    · rw [(gr_pr_k hn _ _).1, (gr_iv_k hn _).1, (gr_lib hs hk).1, zk]
    · rw [(gr_pr_k hn _ _).2.1, (gr_iv_k hn _).1, (gr_iv_k hn _).2.1, Int.add_emod_emod, Int.add_right_neg, Int.zero_emod, zu]
    · rw [(gr_pr_k hn _ _).2.2, (gr_iv_k hn _).1, (gr_iv_k hn _).2.2, Int.add_emod_emod, Int.add_right_neg, Int.zero_emod]
    · rw [(gr_pr_k hn _ _).1, (gr_iv_k hn _).1, (gr_lib hs hk).2.2, zk]
    · rw [(gr_pr_k hn _ _).2.1, (gr_iv_k hn _).2.1, (gr_iv_k hn _).2.2, (gr_emod s _ n _ 0 _ _).1, (gr_neg s _ _ _).1, (gr_li hs hk _ _).1.1, Int.add_left_neg, Int.zero_emod, zu]
    · rw [(gr_pr_k hn _ _).2.2, (gr_iv_k hn _).2.1, (gr_iv_k hn _).2.2, (gr_emod s _ n 0 _ _ _).2, (gr_neg s _ _ _).2, (gr_li hs hk _ _).1.2, Int.add_left_neg, Int.zero_emod]
  rw [← gr_pm_pr hs hn hib ha, ← gr_pm_pr hs hn ha hib, hz.1, hz.2]
  exact ⟨e0, e0⟩
theorem gr_R_sy (hs : s = 0 ∨ s = 1) (hn : 1 ≤ n ∧ n ≤ 12) {i j : Nat} (hi : i < (6 * n * (6 * n)).toNat) (h : mt_pR col s n i j) : mt_pR col s n j i := by
  obtain ⟨m, m1, m2, m3⟩ := h
  obtain ⟨i1, i2, i3⟩ := gr_sm_iv hs hn m1 m2
  refine ⟨_, i2, i1, ?_⟩
  have h1 := (gr_pm_iv hs hn (a := (m : Int)) (show 0 ≤ (m : Int) ∧ (m : Int) < 2 * mt_rd s * (n * n) by omega) (show (i : Int) < 6 * n * (6 * n) by omega)).1
  rw [m3, Int.toNat_natCast] at h1
  rw [i3]
  exact h1
theorem gr_R_tr (hs : s = 0 ∨ s = 1) (hn : 1 ≤ n ∧ n ≤ 12) {i j l : Nat} (h : mt_pR col s n i j) (h' : mt_pR col s n j l) : mt_pR col s n i l := by
  obtain ⟨b, b1, b2, b3⟩ := h
  obtain ⟨a, a1, a2, a3⟩ := h'
  obtain ⟨i1, i2, i3⟩ := gr_sm_pr hs hn a1 b1 a2 b2
  refine ⟨_, i2, i1, ?_⟩
  rw [i3, gr_pm_pr hs hn (show 0 ≤ (a : Int) ∧ (a : Int) < 2 * mt_rd s * (n * n) by omega) (show 0 ≤ (b : Int) ∧ (b : Int) < 2 * mt_rd s * (n * n) by omega), b3, Int.toNat_natCast]
  exact a3
end
/-- an equivalence on the numbers below M -/
def gr_Eq (R : Nat → Nat → Prop) (M : Nat) : Prop := (∀ x, x < M → R x x) ∧ (∀ x y, x < M → y < M → R x y → R y x) ∧ ∀ x y z, x < M → y < M → z < M → R x y → R y z → R x z
theorem gr_R_eq {col : Nat → Int} {s n : Int} (hs : s = 0 ∨ s = 1) (hn : 1 ≤ n ∧ n ≤ 12) : gr_Eq (mt_pR col s n) (6 * n * (6 * n)).toNat := ⟨fun x hx => mt_pR_rf hs hn hx, fun x y hx _ h => gr_R_sy hs hn hx h, fun x y z _ _ _ h h' => gr_R_tr hs hn h h'⟩
section
variable {R : Nat → Nat → Prop} {M : Nat}
theorem gr_cl (hE : gr_Eq R M) : ∀ (i x : Nat), i ≤ M → x < M → ((ri_cl R i).1 x < 0 ↔ ∀ j, j < i → ¬ R j x) := by
  intro i
  induction i with
  | zero => intro x _ _; exact ⟨fun _ j hj => by omega, fun _ => by show (-1 : Int) < 0; decide⟩
  | succ i ih =>
    intro x hi hx
    have hb := (ri_cl_bd R i).1.1
    rcases Classical.em ((ri_cl R i).1 i < 0) with h | h
    · rw [ri_cl_t h]
      show pg_if (R i x) (ri_cl R i).2 ((ri_cl R i).1 x) < 0 ↔ _
      rcases Classical.em (R i x) with hc | hc
      · rw [pg_if_t hc]
        exact ⟨fun h1 => by omega, fun h1 => absurd hc (h1 i (by omega))⟩
      · rw [pg_if_f hc, ih x (by omega) hx]
        refine ⟨fun h1 j hj => ?_, fun h1 j hj => h1 j (by omega)⟩
        rcases (show j < i ∨ j = i by omega) with h2 | rfl
        · exact h1 j h2
        · exact hc
    · rw [ri_cl_f h, ih x (by omega) hx]
      refine ⟨fun h1 j hj h3 => ?_, fun h1 j hj => h1 j (by omega)⟩
      rcases (show j < i ∨ j = i by omega) with h2 | rfl
      · exact h1 j h2 h3
      · refine h ((ih j (by omega) (by omega)).mpr (fun l hl h4 => h1 l hl (hE.2.2 l j x (by omega) (by omega) hx h4 h3)))
/-- the first of a class -/
def gr_rp (R : Nat → Nat → Prop) (i : Nat) : Prop := ∀ j, j < i → ¬ R j i
theorem gr_cl_rp (hE : gr_Eq R M) {i : Nat} (hi : i < M) : (ri_cl R i).1 i < 0 ↔ gr_rp R i := gr_cl hE i i (by omega) hi
theorem gr_rep (hE : gr_Eq R M) {x : Nat} (hx : x < M) : ∃ r, r ≤ x ∧ R r x ∧ gr_rp R r := by
  obtain ⟨r, r1, r2, r3⟩ := gr_min (P := fun r => R r x) (m := x) (hE.1 x hx)
  exact ⟨r, r1, r2, fun j hj h => r3 j hj (hE.2.2 j r x (by omega) (by omega) hx h r2)⟩
theorem gr_rep_u (hE : gr_Eq R M) {r t x : Nat} (hr : r < M) (ht : t < M) (hx : x < M) (h1 : R r x) (h2 : gr_rp R r) (h3 : R t x) (h4 : gr_rp R t) : r = t := by
  have h5 := hE.2.2 r x t hr hx ht h1 (hE.2.1 t x ht hx h3)
  rcases Nat.lt_trichotomy r t with h | h | h
  · exact absurd h5 (h4 r h)
  · exact h
  · exact absurd (hE.2.1 r t hr ht h5) (h2 t h)
/-- the number of a class: how many firsts come before its own -/
theorem gr_cl_no (hE : gr_Eq R M) : ∀ (i x : Nat), i ≤ M → x < M → ∀ r, r < i → R r x → gr_rp R r → (ri_cl R i).1 x = pg_cn (gr_rp R) r := by
  intro i
  induction i with
  | zero => intro x _ _ r hr; omega
  | succ i ih =>
    intro x hi hx r hr h1 h2
    have e2 : (ri_cl R i).2 = pg_cn (gr_rp R) i := by
      rw [ri_cl_cn]
      exact pg_cn_iff (fun j hj => gr_cl_rp hE (by omega))
    rcases Classical.em ((ri_cl R i).1 i < 0) with h | h
    · rw [ri_cl_t h]
      show pg_if (R i x) (ri_cl R i).2 ((ri_cl R i).1 x) = _
      rcases Classical.em (R i x) with hc | hc
      · have := gr_rep_u hE (by omega) (by omega) hx h1 h2 hc ((gr_cl_rp hE (by omega)).mp h)
        rw [pg_if_t hc, this, e2]
      · rw [pg_if_f hc]
        rcases (show r < i ∨ r = i by omega) with h3 | rfl
        · exact ih x (by omega) hx r h3 h1 h2
        · exact absurd h1 hc
    · rw [ri_cl_f h]
      rcases (show r < i ∨ r = i by omega) with h3 | rfl
      · exact ih x (by omega) hx r h3 h1 h2
      · exact absurd ((gr_cl_rp hE (by omega)).mpr h2) h
theorem gr_cl_eq (hE : gr_Eq R M) {x y : Nat} (hx : x < M) (hy : y < M) : (ri_cl R M).1 x = (ri_cl R M).1 y ↔ R x y := by
  obtain ⟨r, r1, r2, r3⟩ := gr_rep hE hx
  obtain ⟨t, t1, t2, t3⟩ := gr_rep hE hy
  rw [gr_cl_no hE M x (Nat.le_refl _) hx r (by omega) r2 r3, gr_cl_no hE M y (Nat.le_refl _) hy t (by omega) t2 t3]
  constructor
  · intro h
    have hrt : r = t := by
      rcases Nat.lt_trichotomy r t with h1 | h1 | h1
      · have := pg_cn_lt2 (P := gr_rp R) h1 r3; omega
      · exact h1
      · have := pg_cn_lt2 (P := gr_rp R) h1 t3; omega
    rw [hrt] at r2
    exact hE.2.2 x t y hx (by omega) hy (hE.2.1 t x (by omega) hx r2) t2
  · intro h
    have := gr_rep_u hE (by omega) (by omega) hy (hE.2.2 r x y (by omega) hx hy r2 h) r3 t2 t3
    rw [this]
end
/-- counting by the value of a function -/
theorem pg_cn_part {P : Nat → Prop} {f : Nat → Nat} {N M : Nat} (h : ∀ m, m < N → P m → f m < M) : pg_cn P N = pg_sm (fun x => pg_cn (fun m => P m ∧ f m = x) N) M := by
  induction N with
  | zero =>
    show 0 = pg_sm (fun _ => 0) M
    clear h
    induction M with
    | zero => rfl
    | succ M ih => simp only [pg_sm]; rw [← ih]; rfl
  | succ N ih =>
    simp only [pg_cn]
    rw [ih (fun m hm => h m (by omega)), pg_sm_ad2, pg_sm_b]
    congr 1
    rcases Classical.em (P N) with hP | hP
    · rw [pg_b_t hP, pg_cn_u1 (fun a b _ _ h1 h2 => by rw [← h1.2, ← h2.2]), pg_b_t ⟨f N, h N (by omega) hP, hP, rfl⟩]
    · rw [pg_b_f hP, pg_cn_0 (fun j _ h1 => hP h1.1)]
