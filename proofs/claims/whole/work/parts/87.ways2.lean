/-! products of moves by number; ways -/
theorem gr_lp3 : ∀ s : Fin 2, ∀ k : Fin 12, ∀ j : Fin 12, (k.val : Int) < 2 * mt_rd (s.val : Int) → (j.val : Int) < 2 * mt_rd (s.val : Int) → mt_lp (s.val : Int) (mt_li (s.val : Int) (k.val : Int)) (mt_lp (s.val : Int) (k.val : Int) (j.val : Int)) = (j.val : Int) ∧ mt_lp (s.val : Int) (k.val : Int) (mt_lp (s.val : Int) (mt_li (s.val : Int) (k.val : Int)) (j.val : Int)) = (j.val : Int) := by decide +kernel
theorem gr_lpi {s k j : Int} (hs : s = 0 ∨ s = 1) (hk : 0 ≤ k ∧ k < 2 * mt_rd s) (hj : 0 ≤ j ∧ j < 2 * mt_rd s) : mt_lp s (mt_li s k) (mt_lp s k j) = j ∧ mt_lp s k (mt_lp s (mt_li s k) j) = j := by
  have hr := mt_rd_or hs
  have h := gr_lp3 ⟨s.toNat, by omega⟩ ⟨k.toNat, by omega⟩ ⟨j.toNat, by omega⟩
  simp only at h
  rw [show ((s.toNat : Nat) : Int) = s by omega, Int.toNat_of_nonneg hk.1, Int.toNat_of_nonneg hj.1] at h
  exact h hk.2 hj.2
section
variable {col : Nat → Int} {s n : Int}
theorem gr_pr_k (hn : 1 ≤ n ∧ n ≤ 12) (a b : Int) : mt_pr s n a b / (n * n) = mt_lp s (a / (n * n)) (b / (n * n)) ∧ mt_pr s n a b / n % n = (mt_x s (a / (n * n)) (b / n % n) (b % n) + a / n % n) % n ∧ mt_pr s n a b % n = (mt_y s (a / (n * n)) (b / n % n) (b % n) + a % n) % n := mt_cd_k hn
theorem gr_iv_k (hn : 1 ≤ n ∧ n ≤ 12) (a : Int) : mt_iv s n a / (n * n) = mt_li s (a / (n * n)) ∧ mt_iv s n a / n % n = (-mt_x s (mt_li s (a / (n * n))) (a / n % n) (a % n)) % n ∧ mt_iv s n a % n = (-mt_y s (mt_li s (a / (n * n))) (a / n % n) (a % n)) % n := mt_cd_k hn
theorem gr_iv_bd (hs : s = 0 ∨ s = 1) (hn : 1 ≤ n ∧ n ≤ 12) {a : Int} (ha : 0 ≤ a ∧ a < 2 * mt_rd s * (n * n)) : 0 ≤ mt_iv s n a ∧ mt_iv s n a < 2 * mt_rd s * (n * n) := mt_cdb hn (mt_li_bd hs (mt_kof hn.1 ha))
theorem gr_mv_eq (hn : 1 ≤ n) {a b : Int} (h1 : a / (n * n) = b / (n * n)) (h2 : a / n % n = b / n % n) (h3 : a % n = b % n) : a = b := by
  rw [mt_mv (m := a) hn, mt_mv (m := b) hn, h1, h2, h3]
theorem gr_em2 (k x y w z : Int) : (mt_x s k (x % n) (y % n) + w % n) % n = (mt_x s k x y + w) % n ∧ (mt_y s k (x % n) (y % n) + z % n) % n = (mt_y s k x y + z) % n := by
  rw [Int.add_emod_emod, Int.add_emod_emod]
  exact gr_emod s k n w z x y
theorem gr_pr_iv (hs : s = 0 ∨ s = 1) (hn : 1 ≤ n ∧ n ≤ 12) {a b : Int} (ha : 0 ≤ a ∧ a < 2 * mt_rd s * (n * n)) (hb : 0 ≤ b ∧ b < 2 * mt_rd s * (n * n)) : mt_pr s n (mt_iv s n a) (mt_pr s n a b) = b ∧ mt_pr s n a (mt_pr s n (mt_iv s n a) b) = b := by
  have hk := mt_kof hn.1 ha
  have hj := mt_kof hn.1 hb
  have u1 := mt_mod hn.1 (b / n)
  have u2 := mt_mod hn.1 b
  refine ⟨gr_mv_eq hn.1 ?_ ?_ ?_, gr_mv_eq hn.1 ?_ ?_ ?_⟩
  · rw [(gr_pr_k hn _ _).1, (gr_iv_k hn _).1, (gr_pr_k hn _ _).1, (gr_lpi hs hk hj).1]
  · rw [(gr_pr_k hn _ _).2.1, (gr_iv_k hn _).1, (gr_iv_k hn _).2.1, (gr_pr_k hn _ _).2.1, (gr_pr_k hn _ _).2.2, (gr_em2 (s := s) (n := n) _ _ _ _ 0).1, (gr_lin s _ _ _ _ _).1, (gr_li hs hk _ _).2.1, Int.add_neg_cancel_right, Int.emod_eq_of_lt u1.1 u1.2]
  · rw [(gr_pr_k hn _ _).2.2, (gr_iv_k hn _).1, (gr_iv_k hn _).2.2, (gr_pr_k hn _ _).2.1, (gr_pr_k hn _ _).2.2, (gr_em2 (s := s) (n := n) _ _ _ 0 _).2, (gr_lin s _ _ _ _ _).2, (gr_li hs hk _ _).2.2, Int.add_neg_cancel_right, Int.emod_eq_of_lt u2.1 u2.2]
  · rw [(gr_pr_k hn _ _).1, (gr_pr_k hn _ _).1, (gr_iv_k hn _).1, (gr_lpi hs hk hj).2]
  · rw [(gr_pr_k hn _ _).2.1, (gr_pr_k hn _ _).2.1, (gr_pr_k hn _ _).2.2, (gr_iv_k hn _).1, (gr_iv_k hn _).2.1, (gr_iv_k hn _).2.2, (gr_emod s _ n _ 0 _ _).1, (gr_lin s _ _ _ _ _).1, (gr_li hs hk _ _).1.1, Int.add_comm (b / n % n), Int.add_assoc, (gr_emod s _ n _ 0 _ _).1, (gr_neg s _ _ _).1, (gr_li hs hk _ _).1.1, show -(a / n % n) + (b / n % n + a / n % n) = b / n % n by omega, Int.emod_eq_of_lt u1.1 u1.2]
  · rw [(gr_pr_k hn _ _).2.2, (gr_pr_k hn _ _).2.1, (gr_pr_k hn _ _).2.2, (gr_iv_k hn _).1, (gr_iv_k hn _).2.1, (gr_iv_k hn _).2.2, (gr_emod s _ n 0 _ _ _).2, (gr_lin s _ _ _ _ _).2, (gr_li hs hk _ _).1.2, Int.add_comm (b % n), Int.add_assoc, (gr_emod s _ n 0 _ _ _).2, (gr_neg s _ _ _).2, (gr_li hs hk _ _).1.2, show -(a % n) + (b % n + a % n) = b % n by omega, Int.emod_eq_of_lt u2.1 u2.2]
/-- the colour where move number a takes a point -/
def gr_A (col : Nat → Int) (s n a x y : Int) : Int := gr_C col n (mt_x s (a / (n * n)) x y + a / n % n) (mt_y s (a / (n * n)) x y + a % n)
theorem gr_A_pr (hs : s = 0 ∨ s = 1) (hn : 1 ≤ n ∧ n ≤ 12) {a b : Int} (ha : 0 ≤ a ∧ a < 2 * mt_rd s * (n * n)) (hb : 0 ≤ b ∧ b < 2 * mt_rd s * (n * n)) (x y : Int) : gr_A col s n (mt_pr s n a b) x y = gr_A col s n a (mt_x s (b / (n * n)) x y + b / n % n) (mt_y s (b / (n * n)) x y + b % n) := by
  have hk := mt_kof hn.1 ha
  have hj := mt_kof hn.1 hb
  unfold gr_A
  rw [(gr_pr_k hn _ _).1, (gr_pr_k hn _ _).2.1, (gr_pr_k hn _ _).2.2, (gr_lp hs hk hj x y).1, (gr_lp hs hk hj x y).2, (gr_lin s _ _ _ _ _).1, (gr_lin s _ _ _ _ _).2]
  refine gr_C_mod ?_ ?_
  · rw [Int.add_emod_emod, Int.add_assoc]
  · rw [Int.add_emod_emod, Int.add_assoc]
theorem gr_sm_A (hn : 1 ≤ n) (m : Nat) : mt_sm col s n m ↔ ∀ x y : Int, gr_C col n x y = gr_A col s n m x y := gr_sym hn
theorem gr_img_iff (hn : 1 ≤ n ∧ n ≤ 12) {k u v : Int} {im : Nat → Int} : mt_img col s n k u v im ↔ (∀ x y : Int, im (gr_C col n x y).toNat = gr_C col n (mt_x s k x y + u) (mt_y s k x y + v)) ∧ ∀ c : Nat, c < 10 → (∀ x y : Int, 0 ≤ x → x < n → 0 ≤ y → y < n → col (mt_pt n x y).toNat ≠ c) → im c = -1 := by
  refine ⟨fun h => ⟨fun x y => gr_img hn h x y, h.2⟩, fun h => ⟨fun x y h1 h2 h3 h4 => ?_, h.2⟩⟩
  have h5 := h.1 x y
  rw [gr_C_at hn.1 h1 h2 h3 h4] at h5
  have h6 := gr_tg (col := col) (s := s) (k := k) (u := u) (v := v) hn.1 x y
  rw [Int.emod_eq_of_lt h1 h2, Int.emod_eq_of_lt h3 h4] at h6
  rw [h6]
  exact h5
theorem ri_wc_inj {im im' : Nat → Int} {c : Nat} (h : ∀ j, j < c → -1 ≤ im j ∧ im j ≤ 9) (h' : ∀ j, j < c → -1 ≤ im' j ∧ im' j ≤ 9) (he : ri_wc im c = ri_wc im' c) : ∀ j, j < c → im j = im' j := by
  induction c with
  | zero => intro j hj; omega
  | succ c ih =>
    simp only [ri_wc] at he
    have a := h c (by omega)
    have b := h' c (by omega)
    intro j hj
    rcases (show j < c ∨ j = c by omega) with h1 | rfl
    · exact ih (fun j hj => h j (by omega)) (fun j hj => h' j (by omega)) (by omega) j h1
    · omega
/-- the changes of one way: as many as there are symmetries -/
theorem gr_fib (hs : s = 0 ∨ s = 1) (hn : 1 ≤ n ∧ n ≤ 12) (hC : ∀ p : Nat, p < 144 → 0 ≤ col p ∧ col p ≤ 9) {w : Int} {m0 : Nat} (hm0 : m0 < (2 * mt_rd s * (n * n)).toNat) (h0 : mt_chg col s n ((m0 : Int) / (n * n)) ((m0 : Int) / n % n) ((m0 : Int) % n)) {im : Nat → Int} (hI : mt_img col s n ((m0 : Int) / (n * n)) ((m0 : Int) / n % n) ((m0 : Int) % n) im) (hw : w = ri_wc im 10) : pg_cn (fun m => mt_chg col s n ((m : Int) / (n * n)) ((m : Int) / n % n) ((m : Int) % n) ∧ ∃ im' : Nat → Int, mt_img col s n ((m : Int) / (n * n)) ((m : Int) / n % n) ((m : Int) % n) im' ∧ w = ri_wc im' 10) (2 * mt_rd s * (n * n)).toNat = pg_cn (mt_sm col s n) (2 * mt_rd s * (n * n)).toNat := by
  have hN := mt_2rn hs hn
  have hr : ∀ m : Nat, m < (2 * mt_rd s * (n * n)).toNat → 0 ≤ (m : Int) ∧ (m : Int) < 2 * mt_rd s * (n * n) := fun m hm => by omega
  have hb0 := hr m0 hm0
  have hk0 := mt_kof hn.1 hb0
  have hib := gr_iv_bd hs hn hb0
  have hcon := (gr_con_iff hn.1).mp h0.1
  have hCb := fun x y => gr_C_bd (col := col) hn hC x y
  refine (pg_cn_bij (f := fun m => (mt_pr s n m0 m).toNat) (g := fun m => (mt_pr s n (mt_iv s n m0) m).toNat) (fun m hm hp => ?_) (fun m hm hp => ?_)).symm
  · have hbm := hr m hm
    have hpb := mt_pr_bd hs hn hb0 hbm
    have e : (((mt_pr s n m0 m).toNat : Nat) : Int) = mt_pr s n m0 m := by omega
    have hA : ∀ x y : Int, gr_A col s n (mt_pr s n m0 m) x y = im (gr_C col n x y).toNat := by
      intro x y
      rw [gr_A_pr hs hn hb0 hbm, (gr_sm_A hn.1 m).mp hp x y]
      exact (gr_img hn hI _ _).symm
    have hi2 : mt_img col s n ((mt_pr s n m0 m) / (n * n)) ((mt_pr s n m0 m) / n % n) ((mt_pr s n m0 m) % n) im := (gr_img_iff hn).mpr ⟨fun x y => (hA x y).symm, hI.2⟩
    have hkp := mt_kof hn.1 hpb
    refine ⟨by show (mt_pr s n m0 m).toNat < _; omega, ?_, ?_⟩
    · show mt_chg col s n ((((mt_pr s n m0 m).toNat : Nat) : Int) / (n * n)) _ _ ∧ _
      rw [e]
      refine ⟨(gr_chg hs hn hkp).mpr ((gr_con_iff hn.1).mpr (fun p q hpq => ?_)), im, hi2, hw⟩
      have h1 := hA p.1 p.2
      have h2 := hA q.1 q.2
      show gr_A col s n (mt_pr s n m0 m) p.1 p.2 = gr_A col s n (mt_pr s n m0 m) q.1 q.2
      rw [h1, h2, hpq]
    · show (mt_pr s n (mt_iv s n m0) (((mt_pr s n m0 m).toNat : Nat) : Int)).toNat = m
      rw [e, (gr_pr_iv hs hn hb0 hbm).1]
      rfl
  · have hbm := hr m hm
    have hpb := mt_pr_bd hs hn hib hbm
    have e : (((mt_pr s n (mt_iv s n m0) m).toNat : Nat) : Int) = mt_pr s n (mt_iv s n m0) m := by omega
    obtain ⟨hp1, im', hp2, hp3⟩ := hp
    have hbi := mt_img_bd hn hC hI
    have hbi' := mt_img_bd hn hC hp2
    have heq := ri_wc_inj hbi hbi' (by rw [← hw, ← hp3])
    refine ⟨by show (mt_pr s n (mt_iv s n m0) m).toNat < _; omega, ?_, ?_⟩
    · refine (gr_sm_A hn.1 _).mpr (fun x y => ?_)
      rw [e]
      generalize hsg : mt_pr s n (mt_iv s n m0) m = sg at *
      have hpr : mt_pr s n m0 sg = m := by rw [← hsg]; exact (gr_pr_iv hs hn hb0 hbm).2
      have h1 := gr_A_pr (col := col) hs hn hb0 hpb x y
      rw [hpr] at h1
      have h2 : gr_A col s n m x y = im' (gr_C col n x y).toNat := (gr_img hn hp2 x y).symm
      have hcx := hCb x y
      rw [h2, ← heq _ (by omega)] at h1
      have h3 := gr_img hn hI x y
      exact gr_con_inj hs hn.1 hk0 hcon (x, y) (mt_x s (sg / (n * n)) x y + sg / n % n, mt_y s (sg / (n * n)) x y + sg % n) (h3.symm.trans h1)
    · show (mt_pr s n m0 (((mt_pr s n (mt_iv s n m0) m).toNat : Nat) : Int)).toNat = m
      rw [e, (gr_pr_iv hs hn hb0 hbm).2]
      rfl
end
theorem pg_cn_split (P Q : Nat → Prop) (N : Nat) : pg_cn P N = pg_cn (fun m => P m ∧ Q m) N + pg_cn (fun m => P m ∧ ¬ Q m) N := by
  induction N with
  | zero => rfl
  | succ N ih =>
    simp only [pg_cn]
    rw [ih]
    rcases Classical.em (P N) with h1 | h1
    · rcases Classical.em (Q N) with h2 | h2
      · rw [pg_b_t h1, pg_b_t ⟨h1, h2⟩, pg_b_f (fun h : P N ∧ ¬ Q N => h.2 h2)]; omega
      · rw [pg_b_t h1, pg_b_f (fun h : P N ∧ Q N => h2 h.2), pg_b_t ⟨h1, h2⟩]; omega
    · rw [pg_b_f h1, pg_b_f (fun h : P N ∧ Q N => h1 h.1), pg_b_f (fun h : P N ∧ ¬ Q N => h1 h.1)]; omega
theorem pg_cn_list {R : Nat → Int → Prop} {N : Nat} {M : Int} : ∀ (L : List Int) (P : Nat → Prop), L.Nodup → (∀ m, m < N → P m → ∃ w ∈ L, R m w) → (∀ m w w', m < N → P m → R m w → R m w' → w = w') → (∀ w ∈ L, pg_cn (fun m => P m ∧ R m w) N = M) → pg_cn P N = (L.length : Int) * M := by
  intro L
  induction L with
  | nil =>
    intro P hd hex hun hc
    rw [pg_cn_0 (fun j hj hp => by obtain ⟨w, hw, _⟩ := hex j hj hp; cases hw)]
    exact (Int.zero_mul _).symm
  | cons w L ih =>
    intro P hd hex hun hc
    have hd2 := List.nodup_cons.mp hd
    rw [pg_cn_split P (fun m => R m w) N, hc w List.mem_cons_self]
    have h1 := ih (fun m => P m ∧ ¬ R m w) hd2.2 (fun m hm hp => by
      obtain ⟨w', hw1, hw2⟩ := hex m hm hp.1
      rcases List.mem_cons.mp hw1 with h | h
      · exact absurd (by rw [← h]; exact hw2) hp.2
      · exact ⟨w', h, hw2⟩) (fun m a b hm hp => hun m a b hm hp.1) (fun w' hw' => by
      rw [← hc w' (List.mem_cons_of_mem _ hw')]
      refine pg_cn_iff (fun m hm => ⟨fun h => ⟨h.1.1, h.2⟩, fun h => ⟨⟨h.1, fun hr => ?_⟩, h.2⟩⟩)
      have := hun m w' w hm h.1 h.2 hr
      exact hd2.1 (by rw [← this]; exact hw'))
    rw [h1]
    simp only [List.length_cons]
    rw [Int.natCast_add, Int.add_mul]
    simp
    omega
/-- a change has an image of every colour -/
theorem mt_img_ex {col : Nat → Int} {s n k u v : Int} (hn : 1 ≤ n ∧ n ≤ 12) (hC : ∀ p : Nat, p < 144 → 0 ≤ col p ∧ col p ≤ 9) (h : mt_con col s n k u v) : ∃ im : Nat → Int, mt_img col s n k u v im := by
  have hcon := (gr_con_iff hn.1).mp h
  have hg : ∀ c : Nat, ∃ z : Int, (∀ x y : Int, gr_C col n x y = c → z = gr_C col n (mt_x s k x y + u) (mt_y s k x y + v)) ∧ ((∀ x y : Int, gr_C col n x y ≠ c) → z = -1) := by
    intro c
    rcases Classical.em (∃ x y : Int, gr_C col n x y = c) with ⟨x, y, hxy⟩ | h1
    · refine ⟨gr_C col n (mt_x s k x y + u) (mt_y s k x y + v), fun x' y' hx' => ?_, fun hno => absurd hxy (hno x y)⟩
      exact hcon (x, y) (x', y') (by show gr_C col n x y = gr_C col n x' y'; rw [hxy, hx'])
    · exact ⟨-1, fun x y hxy => absurd ⟨x, y, hxy⟩ h1, fun _ => rfl⟩
  refine ⟨fun c => Classical.choose (hg c), (gr_img_iff hn).mpr ⟨fun x y => ?_, fun c hc hno => ?_⟩⟩
  · have hb := gr_C_bd hn hC x y
    exact (Classical.choose_spec (hg (gr_C col n x y).toNat)).1 x y (by omega)
  · refine (Classical.choose_spec (hg c)).2 (fun x y hxy => ?_)
    have a := mt_mod hn.1 x
    have b := mt_mod hn.1 y
    exact hno (x % n) (y % n) a.1 a.2 b.1 b.2 hxy
/-- ways: changes over symmetries -/
theorem gr_ways {col : Nat → Int} {s n : Int} (hs : s = 0 ∨ s = 1) (hn : 1 ≤ n ∧ n ≤ 12) (hC : ∀ p : Nat, p < 144 → 0 ≤ col p ∧ col p ≤ 9) {L : List Int} (hL : ri_WL col s n (2 * mt_rd s * (n * n)).toNat L) : pg_cn (fun m => mt_chg col s n ((m : Int) / (n * n)) ((m : Int) / n % n) ((m : Int) % n)) (2 * mt_rd s * (n * n)).toNat = (L.length : Int) * pg_cn (mt_sm col s n) (2 * mt_rd s * (n * n)).toNat := by
  have hN := mt_2rn hs hn
  refine pg_cn_list (R := fun m w => ∃ im : Nat → Int, mt_img col s n ((m : Int) / (n * n)) ((m : Int) / n % n) ((m : Int) % n) im ∧ w = ri_wc im 10) L _ hL.1 (fun m hm hp => ?_) (fun m w w' hm hp h1 h2 => ?_) (fun w hw => ?_)
  · have hk := mt_kof hn.1 (show 0 ≤ (m : Int) ∧ (m : Int) < 2 * mt_rd s * (n * n) by omega)
    obtain ⟨im, him⟩ := mt_img_ex hn hC hp.1
    exact ⟨_, (hL.2 _).mpr ⟨m, hm, hp, im, him, rfl⟩, im, him, rfl⟩
  · obtain ⟨im, i1, i2⟩ := h1
    obtain ⟨im', j1, j2⟩ := h2
    rw [i2, j2, ri_wc_eq (mt_img_u i1 j1)]
  · obtain ⟨m0, a1, a2, im, a3, a4⟩ := (hL.2 w).mp hw
    exact gr_fib hs hn hC a1 a2 a3 a4
