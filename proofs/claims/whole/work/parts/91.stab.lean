/-! orbits and what fixes; cones and corners -/
section
variable {col : Nat → Int} {s n : Int}
theorem gr_stab (i : Nat) : pg_cn (fun m => mt_sm col s n m ∧ mt_pm s n m i = i) (2 * mt_rd s * (n * n)).toNat = mt_tu col s n i + mt_mi col s n i := by
  rw [pg_cn_split _ (fun m => (m : Int) / (n * n) < mt_rd s)]
  unfold mt_tu mt_mi
  congr 1
  · exact pg_cn_iff (fun m _ => ⟨fun h => ⟨h.1.1, h.1.2, h.2⟩, fun h => ⟨⟨h.1, h.2.1⟩, h.2.2⟩⟩)
  · exact pg_cn_iff (fun m _ => ⟨fun h => ⟨h.1.1, h.1.2, h.2⟩, fun h => ⟨⟨h.1, h.2.1⟩, h.2.2⟩⟩)
/-- orbit times what fixes is all -/
theorem gr_os (hs : s = 0 ∨ s = 1) (hn : 1 ≤ n ∧ n ≤ 12) {i : Nat} (hi : i < (6 * n * (6 * n)).toNat) : pg_cn (mt_sm col s n) (2 * mt_rd s * (n * n)).toNat = pg_cn (fun x => mt_pR col s n i x) (6 * n * (6 * n)).toNat * (mt_tu col s n i + mt_mi col s n i) := by
  have hN := mt_2rn hs hn
  have hr : ∀ m : Nat, m < (2 * mt_rd s * (n * n)).toNat → 0 ≤ (m : Int) ∧ (m : Int) < 2 * mt_rd s * (n * n) := fun m hm => by omega
  have hi2 : (i : Int) < 6 * n * (6 * n) := by omega
  rw [pg_cn_part (f := fun m => (mt_pm s n m i).toNat) (M := (6 * n * (6 * n)).toNat) (fun m _ _ => by have := gr_pm_bd (s := s) hn (m : Int) i; show (mt_pm s n m i).toNat < _; omega), ← gr_stab]
  rw [pg_sm_eq (g := fun x => pg_b (mt_pR col s n i x) * pg_cn (fun m => mt_sm col s n m ∧ mt_pm s n m i = i) (2 * mt_rd s * (n * n)).toNat) (fun x hx => ?_), pg_sm_mul', pg_sm_b]
  have ex : ∀ m : Nat, ((mt_pm s n m i).toNat = x ↔ mt_pm s n m i = x) := fun m => by
    have := gr_pm_bd (s := s) hn (m : Int) i
    omega
  rcases Classical.em (mt_pR col s n i x) with h | h
  · rw [pg_b_t h, Int.one_mul]
    obtain ⟨m0, a1, a2, a3⟩ := h
    obtain ⟨v1, v2, v3⟩ := gr_sm_iv hs hn a1 a2
    refine (pg_cn_bij (f := fun m => (mt_pr s n m0 m).toNat) (g := fun m => (mt_pr s n (mt_iv s n m0) m).toNat) (fun m hm hp => ?_) (fun m hm hp => ?_)).symm
    · obtain ⟨p1, p2, p3⟩ := gr_sm_pr hs hn a1 hm a2 hp.1
      refine ⟨p2, ⟨p1, (ex _).mpr ?_⟩, ?_⟩
      · rw [p3, gr_pm_pr hs hn (hr m0 a1) (hr m hm), hp.2, Int.toNat_natCast]
        exact a3
      · show (mt_pr s n (mt_iv s n m0) (((mt_pr s n m0 m).toNat : Nat) : Int)).toNat = m
        rw [p3, (gr_pr_iv hs hn (hr m0 a1) (hr m hm)).1]
        rfl
    · obtain ⟨p1, p2, p3⟩ := gr_sm_pr hs hn v2 hm v1 hp.1
      rw [v3] at p1 p2 p3
      have hpx := (ex m).mp hp.2
      refine ⟨p2, ⟨p1, ?_⟩, ?_⟩
      · rw [p3, gr_pm_pr hs hn (gr_iv_bd hs hn (hr m0 a1)) (hr m hm), hpx, ← a3]
        exact (gr_pm_iv hs hn (hr m0 a1) hi2).1
      · show (mt_pr s n m0 (((mt_pr s n (mt_iv s n m0) m).toNat : Nat) : Int)).toNat = m
        rw [p3, (gr_pr_iv hs hn (hr m0 a1) (hr m hm)).2]
        rfl
  · rw [pg_b_f h, Int.zero_mul]
    exact pg_cn_0 (fun m hm hp => h ⟨m, hm, hp.1, (ex m).mp hp.2⟩)
/-- places of a sort that the group keeps, and their classes -/
theorem gr_osn (hs : s = 0 ∨ s = 1) (hn : 1 ≤ n ∧ n ≤ 12) {F : Nat → Prop} {c : Int} (hF : ∀ i j : Nat, i < (6 * n * (6 * n)).toNat → j < (6 * n * (6 * n)).toNat → mt_pR col s n i j → F i → F j) (hc : ∀ i : Nat, i < (6 * n * (6 * n)).toNat → F i → mt_tu col s n i + mt_mi col s n i = c) : pg_cn F (6 * n * (6 * n)).toNat * c = pg_cn (fun i => mt_rp col s n i ∧ F i) (6 * n * (6 * n)).toNat * pg_cn (mt_sm col s n) (2 * mt_rd s * (n * n)).toNat := by
  have hE := gr_R_eq (col := col) hs hn
  generalize hM : (6 * n * (6 * n)).toNat = M at *
  have hrp : ∀ i, i < M → (mt_rp col s n i ↔ gr_rp (mt_pR col s n) i) := fun i hi => gr_cl_rp hE hi
  have hg : ∀ i, ∃ r, i < M → r ≤ i ∧ mt_pR col s n r i ∧ gr_rp (mt_pR col s n) r := fun i => by
    by_cases hi : i < M
    · obtain ⟨r, hr⟩ := gr_rep hE hi
      exact ⟨r, fun _ => hr⟩
    · exact ⟨0, fun h => absurd h hi⟩
  rw [pg_cn_part (P := F) (f := fun i => Classical.choose (hg i)) (M := M) (fun i hi _ => by have := (Classical.choose_spec (hg i) hi).1; show Classical.choose (hg i) < M; omega)]
  rw [← pg_sm_mul', ← pg_sm_b, ← pg_sm_mul']
  refine pg_sm_eq (fun r hr => ?_)
  rcases Classical.em (mt_rp col s n r ∧ F r) with h | h
  · rw [pg_b_t h, Int.one_mul]
    have h1 := gr_os (col := col) hs hn (i := r) (by rw [hM]; exact hr)
    rw [hM, hc r hr h.2] at h1
    rw [h1]
    congr 1
    refine pg_cn_iff (fun i hi => ?_)
    have hsp := Classical.choose_spec (hg i) hi
    constructor
    · rintro ⟨-, q2⟩
      rw [q2] at hsp
      exact hsp.2.1
    · intro q
      exact ⟨hF r i hr hi q h.2, gr_rep_u hE (by omega) hr hi hsp.2.1 hsp.2.2 q ((hrp r hr).mp h.1)⟩
  · rw [pg_b_f h, Int.zero_mul, pg_cn_0, Int.zero_mul]
    rintro i hi ⟨q1, q2⟩
    have hsp := Classical.choose_spec (hg i) hi
    rw [q2] at hsp
    exact h ⟨(hrp r hr).mpr hsp.2.2, hF i r hi hr (hE.2.1 r i hr hi hsp.2.1) q1⟩
end
/-! what fixes a place, and how it goes along -/
theorem gr_cj0 : ∀ s : Fin 2, ∀ j : Fin 12, ∀ k : Fin 12, (j.val : Int) < 2 * mt_rd (s.val : Int) → (k.val : Int) < 2 * mt_rd (s.val : Int) → (mt_lp (s.val : Int) (mt_lp (s.val : Int) (j.val : Int) (k.val : Int)) (mt_li (s.val : Int) (j.val : Int)) < mt_rd (s.val : Int) ↔ (k.val : Int) < mt_rd (s.val : Int)) ∧ mt_lp (s.val : Int) (mt_lp (s.val : Int) (mt_li (s.val : Int) (j.val : Int)) (mt_lp (s.val : Int) (mt_lp (s.val : Int) (j.val : Int) (k.val : Int)) (mt_li (s.val : Int) (j.val : Int)))) (j.val : Int) = (k.val : Int) ∧ (mt_lp (s.val : Int) (j.val : Int) (k.val : Int) < mt_rd (s.val : Int) ↔ ((j.val : Int) < mt_rd (s.val : Int) ↔ (k.val : Int) < mt_rd (s.val : Int))) := by decide +kernel
/-- a linear part, taken along by another -/
def gr_cj (s j k : Int) : Int := mt_lp s (mt_lp s j k) (mt_li s j)
section
variable {s n : Int} {S : Int → Int → Int → Prop}
theorem gr_cjb (hs : s = 0 ∨ s = 1) {j k : Int} (hj : 0 ≤ j ∧ j < 2 * mt_rd s) (hk : 0 ≤ k ∧ k < 2 * mt_rd s) : (0 ≤ gr_cj s j k ∧ gr_cj s j k < 2 * mt_rd s) ∧ (gr_cj s j k < mt_rd s ↔ k < mt_rd s) ∧ gr_cj s (mt_li s j) (gr_cj s j k) = k ∧ (mt_lp s j k < mt_rd s ↔ (j < mt_rd s ↔ k < mt_rd s)) := by
  have hr := mt_rd_or hs
  have h := gr_cj0 ⟨s.toNat, by omega⟩ ⟨j.toNat, by omega⟩ ⟨k.toNat, by omega⟩
  simp only at h
  rw [show ((s.toNat : Nat) : Int) = s by omega, Int.toNat_of_nonneg hj.1, Int.toNat_of_nonneg hk.1] at h
  obtain ⟨h1, h2, h3⟩ := h hj.2 hk.2
  refine ⟨mt_lp_bd hs (mt_lp_bd hs hj hk) (mt_li_bd hs hj), h1, ?_, h3⟩
  unfold gr_cj
  rw [(gr_lib hs hj).2.1]
  exact h2
theorem gr_fx_mul (hs : s = 0 ∨ s = 1) (hG : gr_G s n S) {j k P Q : Int} (hj : 0 ≤ j ∧ j < 2 * mt_rd s) (hk : 0 ≤ k ∧ k < 2 * mt_rd s) (h : gr_fx S s j P Q) (h' : gr_fx S s k P Q) : gr_fx S s (mt_lp s j k) P Q := by
  obtain ⟨u, v, h1, h2, h3⟩ := h
  obtain ⟨x, y, k1, k2, k3⟩ := h'
  refine ⟨_, _, hG.2.1 j k u v x y hj hk h1 k1, ?_, ?_⟩
  · rw [(gr_lp hs hj hk P Q).1, Int.mul_add, ← Int.add_assoc, ← (gr_sc s j 6 x y).1, ← (gr_lin s j _ _ _ _).1, k2, k3]
    exact h2
  · rw [(gr_lp hs hj hk P Q).2, Int.mul_add, ← Int.add_assoc, ← (gr_sc s j 6 x y).2, ← (gr_lin s j _ _ _ _).2, k2, k3]
    exact h3
theorem gr_fx_inv (hs : s = 0 ∨ s = 1) (hG : gr_G s n S) {j P Q : Int} (hj : 0 ≤ j ∧ j < 2 * mt_rd s) (h : gr_fx S s j P Q) : gr_fx S s (mt_li s j) P Q := by
  obtain ⟨u, v, h1, h2, h3⟩ := h
  refine ⟨_, _, hG.2.2.1 j u v hj h1, ?_, ?_⟩
  · have e := (gr_li hs hj P Q).2.1
    have e2 := (gr_lin s (mt_li s j) (mt_x s j P Q) (mt_y s j P Q) (6 * u) (6 * v)).1
    rw [h2, h3, e, (gr_sc s _ 6 u v).1] at e2
    omega
  · have e := (gr_li hs hj P Q).2.2
    have e2 := (gr_lin s (mt_li s j) (mt_x s j P Q) (mt_y s j P Q) (6 * u) (6 * v)).2
    rw [h2, h3, e, (gr_sc s _ 6 u v).2] at e2
    omega
theorem gr_fx_cj (hs : s = 0 ∨ s = 1) (hG : gr_G s n S) {j k P Q x y : Int} (hj : 0 ≤ j ∧ j < 2 * mt_rd s) (hk : 0 ≤ k ∧ k < 2 * mt_rd s) (h : S j x y) (h' : gr_fx S s k P Q) : gr_fx S s (gr_cj s j k) (mt_x s j P Q + 6 * x) (mt_y s j P Q + 6 * y) := by
  obtain ⟨u, v, h1, h2, h3⟩ := h'
  have hjk := mt_lp_bd hs hj hk
  have hl := mt_li_bd hs hj
  have a := hG.2.1 j k x y u v hj hk h h1
  have b := hG.2.1 _ _ _ _ _ _ hjk hl a (hG.2.2.1 j x y hj h)
  have ex := gr_lp hs hjk hl (mt_x s j P Q + 6 * x) (mt_y s j P Q + 6 * y)
  have e1 := gr_lin s (mt_li s j) (mt_x s j P Q) (mt_y s j P Q) (6 * x) (6 * y)
  rw [(gr_li hs hj P Q).2.1, (gr_li hs hj P Q).2.2, (gr_sc s _ 6 x y).1, (gr_sc s _ 6 x y).2] at e1
  have e4 := gr_lin s (mt_lp s j k) P Q (6 * mt_x s (mt_li s j) x y) (6 * mt_y s (mt_li s j) x y)
  rw [(gr_sc s (mt_lp s j k) 6 _ _).1, (gr_sc s (mt_lp s j k) 6 _ _).2, (gr_lp hs hj hk P Q).1, (gr_lp hs hj hk P Q).2] at e4
  rw [e1.1, e1.2, e4.1, e4.2] at ex
  have e2 := gr_lin s j (mt_x s k P Q) (mt_y s k P Q) (6 * u) (6 * v)
  rw [h2, h3, (gr_sc s _ 6 u v).1, (gr_sc s _ 6 u v).2] at e2
  refine ⟨_, _, b, ?_, ?_⟩
  · show mt_x s (mt_lp s (mt_lp s j k) (mt_li s j)) _ _ + _ = _
    rw [ex.1, (gr_neg s _ _ _).1]
    omega
  · show mt_y s (mt_lp s (mt_lp s j k) (mt_li s j)) _ _ + _ = _
    rw [ex.2, (gr_neg s _ _ _).2]
    omega
theorem gr_fx_sh (hs : s = 0 ∨ s = 1) (hG : gr_G s n S) {k P Q x y : Int} (hk : 0 ≤ k ∧ k < 2 * mt_rd s) (h : S 0 x y) : gr_fx S s k (P + 6 * x) (Q + 6 * y) ↔ gr_fx S s k P Q := by
  have hcj : gr_cj s 0 k = k := by
    unfold gr_cj
    rw [(gr_lp0 hs hk).1, (gr_lp0 hs hk).2.2, (gr_lp0 hs hk).2.1]
  constructor
  · intro h1
    have h2 := gr_fx_cj hs hG (gr_0k hs) hk (gr_sneg hs hG h) h1
    rw [hcj, (mt_x0 s _ _).1, (mt_x0 s _ _).2, show P + 6 * x + 6 * -x = P by omega, show Q + 6 * y + 6 * -y = Q by omega] at h2
    exact h2
  · intro h1
    have h2 := gr_fx_cj hs hG (gr_0k hs) hk h h1
    rw [hcj, (mt_x0 s _ _).1, (mt_x0 s _ _).2] at h2
    exact h2
/-- turns, mirrors at a place of the plane -/
noncomputable def gr_t (S : Int → Int → Int → Prop) (s P Q : Int) : Int := pg_cn (fun k => gr_fx S s k P Q) (mt_rd s).toNat
noncomputable def gr_m (S : Int → Int → Int → Prop) (s P Q : Int) : Int := pg_cn (fun k => gr_fx S s (mt_rd s + k) P Q) (mt_rd s).toNat
theorem gr_t_sh (hs : s = 0 ∨ s = 1) (hG : gr_G s n S) {P Q x y : Int} (h : S 0 x y) : gr_t S s (P + 6 * x) (Q + 6 * y) = gr_t S s P Q ∧ gr_m S s (P + 6 * x) (Q + 6 * y) = gr_m S s P Q := by
  have hr := mt_rd_or hs
  exact ⟨pg_cn_iff (fun k hk => gr_fx_sh hs hG (by omega) h), pg_cn_iff (fun k hk => gr_fx_sh hs hG (by omega) h)⟩
theorem gr_t_le (hs : s = 0 ∨ s = 1) (hG : gr_G s n S) {j P Q x y : Int} (hj : 0 ≤ j ∧ j < 2 * mt_rd s) (h : S j x y) : gr_t S s P Q ≤ gr_t S s (mt_x s j P Q + 6 * x) (mt_y s j P Q + 6 * y) ∧ gr_m S s P Q ≤ gr_m S s (mt_x s j P Q + 6 * x) (mt_y s j P Q + 6 * y) := by
  have hr := mt_rd_or hs
  constructor
  · refine pg_cn_inj (f := fun k => (gr_cj s j k).toNat) (fun k hk hp => ?_) (fun a b ha hb p q e => ?_)
    · have hk1 : 0 ≤ (k : Int) ∧ (k : Int) < 2 * mt_rd s := by omega
      have hb := gr_cjb hs hj hk1
      have h1 := hb.2.1.mpr (by omega)
      refine ⟨by show (gr_cj s j k).toNat < _; omega, ?_⟩
      show gr_fx S s (((gr_cj s j k).toNat : Nat) : Int) _ _
      rw [show (((gr_cj s j k).toNat : Nat) : Int) = gr_cj s j k by omega]
      exact gr_fx_cj hs hG hj hk1 h hp
    · have h1 := gr_cjb hs hj (show 0 ≤ (a : Int) ∧ (a : Int) < 2 * mt_rd s by omega)
      have h2 := gr_cjb hs hj (show 0 ≤ (b : Int) ∧ (b : Int) < 2 * mt_rd s by omega)
      have e1 : (gr_cj s j a).toNat = (gr_cj s j b).toNat := e
      have e2 : gr_cj s j a = gr_cj s j b := by omega
      have e3 := h1.2.2.1
      rw [e2, h2.2.2.1] at e3
      omega
  · refine pg_cn_inj (f := fun k => (gr_cj s j (mt_rd s + k) - mt_rd s).toNat) (fun k hk hp => ?_) (fun a b ha hb p q e => ?_)
    · have hk1 : 0 ≤ mt_rd s + (k : Int) ∧ mt_rd s + (k : Int) < 2 * mt_rd s := by omega
      have hb := gr_cjb hs hj hk1
      have h1 : ¬ gr_cj s j (mt_rd s + k) < mt_rd s := fun h0 => by have := hb.2.1.mp h0; omega
      refine ⟨by show (gr_cj s j (mt_rd s + k) - mt_rd s).toNat < _; omega, ?_⟩
      show gr_fx S s (mt_rd s + (((gr_cj s j (mt_rd s + k) - mt_rd s).toNat : Nat) : Int)) _ _
      rw [show mt_rd s + (((gr_cj s j (mt_rd s + k) - mt_rd s).toNat : Nat) : Int) = gr_cj s j (mt_rd s + k) by omega]
      exact gr_fx_cj hs hG hj hk1 h hp
    · have h1 := gr_cjb hs hj (show 0 ≤ mt_rd s + (a : Int) ∧ mt_rd s + (a : Int) < 2 * mt_rd s by omega)
      have h2 := gr_cjb hs hj (show 0 ≤ mt_rd s + (b : Int) ∧ mt_rd s + (b : Int) < 2 * mt_rd s by omega)
      have n1 : ¬ gr_cj s j (mt_rd s + a) < mt_rd s := fun h0 => by have := h1.2.1.mp h0; omega
      have n2 : ¬ gr_cj s j (mt_rd s + b) < mt_rd s := fun h0 => by have := h2.2.1.mp h0; omega
      have e1 : (gr_cj s j (mt_rd s + a) - mt_rd s).toNat = (gr_cj s j (mt_rd s + b) - mt_rd s).toNat := e
      have e2 : gr_cj s j (mt_rd s + a) = gr_cj s j (mt_rd s + b) := by omega
      have e3 := h1.2.2.1
      rw [e2, h2.2.2.1] at e3
      omega
theorem gr_t_eq (hs : s = 0 ∨ s = 1) (hG : gr_G s n S) {j P Q x y : Int} (hj : 0 ≤ j ∧ j < 2 * mt_rd s) (h : S j x y) : gr_t S s (mt_x s j P Q + 6 * x) (mt_y s j P Q + 6 * y) = gr_t S s P Q ∧ gr_m S s (mt_x s j P Q + 6 * x) (mt_y s j P Q + 6 * y) = gr_m S s P Q := by
  have h1 := gr_t_le hs hG (P := P) (Q := Q) hj h
  have h2 := gr_t_le hs hG (P := mt_x s j P Q + 6 * x) (Q := mt_y s j P Q + 6 * y) (mt_li_bd hs hj) (hG.2.2.1 j x y hj h)
  have e1 := gr_lin s (mt_li s j) (mt_x s j P Q) (mt_y s j P Q) (6 * x) (6 * y)
  rw [(gr_li hs hj P Q).2.1, (gr_li hs hj P Q).2.2, (gr_sc s _ 6 x y).1, (gr_sc s _ 6 x y).2] at e1
  rw [e1.1, e1.2, show P + 6 * mt_x s (mt_li s j) x y + 6 * -mt_x s (mt_li s j) x y = P by omega, show Q + 6 * mt_y s (mt_li s j) x y + 6 * -mt_y s (mt_li s j) x y = Q by omega] at h2
  omega
/-- where there is a mirror there are as many mirrors as turns -/
theorem gr_mt (hs : s = 0 ∨ s = 1) (hG : gr_G s n S) {P Q : Int} (h : 0 < gr_m S s P Q) : gr_m S s P Q = gr_t S s P Q := by
  have hr := mt_rd_or hs
  obtain ⟨k0, hk0, hf⟩ := pg_cn_pos.mp h
  have hk : 0 ≤ mt_rd s + (k0 : Int) ∧ mt_rd s + (k0 : Int) < 2 * mt_rd s := by omega
  have hl := mt_li_bd hs hk
  have hfl := gr_fx_inv hs hG hk hf
  have hll := gr_cjb hs hk hl
  have hl0 : ¬ mt_li s (mt_rd s + k0) < mt_rd s := by
    intro h1
    have h2 := hll.2.2.2
    rw [(gr_lib hs hk).2.2] at h2
    omega
  unfold gr_m gr_t
  refine (pg_cn_bij (f := fun k => (mt_lp s (mt_rd s + k0) k - mt_rd s).toNat) (g := fun k => (mt_lp s (mt_li s (mt_rd s + k0)) (mt_rd s + k)).toNat) (fun k hk1 hp => ?_) (fun k hk1 hp => ?_)).symm
  · have hb : 0 ≤ (k : Int) ∧ (k : Int) < 2 * mt_rd s := by omega
    have h1 := gr_cjb hs hk hb
    have h2 := mt_lp_bd hs hk hb
    have h3 : ¬ mt_lp s (mt_rd s + k0) k < mt_rd s := fun h0 => by have := h1.2.2.2.mp h0; omega
    have e : mt_rd s + (((mt_lp s (mt_rd s + k0) k - mt_rd s).toNat : Nat) : Int) = mt_lp s (mt_rd s + k0) k := by omega
    refine ⟨by show (mt_lp s (mt_rd s + k0) k - mt_rd s).toNat < _; omega, ?_, ?_⟩
    · show gr_fx S s (mt_rd s + (((mt_lp s (mt_rd s + k0) k - mt_rd s).toNat : Nat) : Int)) P Q
      rw [e]
      exact gr_fx_mul hs hG hk hb hf hp
    · show (mt_lp s (mt_li s (mt_rd s + k0)) (mt_rd s + (((mt_lp s (mt_rd s + k0) k - mt_rd s).toNat : Nat) : Int))).toNat = k
      rw [e, (gr_lpi hs hk hb).1]
      rfl
  · have hb : 0 ≤ mt_rd s + (k : Int) ∧ mt_rd s + (k : Int) < 2 * mt_rd s := by omega
    have h1 := gr_cjb hs hl hb
    have h2 := mt_lp_bd hs hl hb
    have h3 : mt_lp s (mt_li s (mt_rd s + k0)) (mt_rd s + k) < mt_rd s := h1.2.2.2.mpr (by omega)
    have e : (((mt_lp s (mt_li s (mt_rd s + k0)) (mt_rd s + k)).toNat : Nat) : Int) = mt_lp s (mt_li s (mt_rd s + k0)) (mt_rd s + k) := by omega
    refine ⟨by show (mt_lp s (mt_li s (mt_rd s + k0)) (mt_rd s + k)).toNat < _; omega, ?_, ?_⟩
    · show gr_fx S s (((mt_lp s (mt_li s (mt_rd s + k0)) (mt_rd s + k)).toNat : Nat) : Int) P Q
      rw [e]
      exact gr_fx_mul hs hG hl hb hfl hp
    · show (mt_lp s (mt_rd s + k0) (((mt_lp s (mt_li s (mt_rd s + k0)) (mt_rd s + k)).toNat : Nat) : Int) - mt_rd s).toNat = k
      rw [e, (gr_lpi hs hk hb).2]
      omega
end
