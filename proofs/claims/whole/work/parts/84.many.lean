/-! how many symmetries -/
theorem pg_cn_sur {P Q : Nat → Prop} {N M : Nat} {f : Nat → Nat} (h : ∀ k, k < M → Q k → ∃ m, m < N ∧ P m ∧ f m = k) : pg_cn Q M ≤ pg_cn P N := by
  have hg : ∀ k, ∃ m, k < M → Q k → m < N ∧ P m ∧ f m = k := by
    intro k
    by_cases hk : k < M ∧ Q k
    · obtain ⟨m, hm⟩ := h k hk.1 hk.2
      exact ⟨m, fun _ _ => hm⟩
    · exact ⟨0, fun h1 h2 => absurd ⟨h1, h2⟩ hk⟩
  refine pg_cn_inj (f := fun k => Classical.choose (hg k)) (fun k h1 h2 => ?_) (fun a b ha hb p q e => ?_)
  · have := Classical.choose_spec (hg k) h1 h2
    exact ⟨this.1, this.2.1⟩
  · have h1 := Classical.choose_spec (hg a) ha p
    have h2 := Classical.choose_spec (hg b) hb q
    rw [← h1.2.2, ← h2.2.2]
    exact congrArg f e
theorem pg_cn_u1 {P : Nat → Prop} {N : Nat} (h : ∀ a b, a < N → b < N → P a → P b → a = b) : pg_cn P N = pg_b (∃ m, m < N ∧ P m) := by
  rcases Classical.em (∃ m, m < N ∧ P m) with hc | hc
  · rw [pg_b_t hc]
    have h1 := pg_cn_pos.mpr hc
    have h2 := pg_cn_inj (P := P) (Q := fun _ => True) (N := N) (M := 1) (f := fun _ => 0) (fun m _ _ => ⟨by decide, trivial⟩) (fun a b ha hb p q _ => h a b ha hb p q)
    have h3 := pg_cn_bd (fun _ => True) 1
    omega
  · rw [pg_b_f hc]
    exact pg_cn_0 (fun j hj hp => hc ⟨j, hj, hp⟩)
/-- moves by number: by k, then by shift -/
theorem gr_rows {n : Int} (hn : 1 ≤ n) (R : Int → Int → Int → Prop) (K : Nat) : pg_cn (fun m => R ((m : Int) / (n * n)) ((m : Int) / n % n) ((m : Int) % n)) (K * (n * n).toNat) = pg_sm (fun k => pg_cn (fun t => R (k : Int) ((t : Int) / n) ((t : Int) % n)) (n * n).toNat) K := by
  rw [pg_cn_rows]
  refine pg_sm_eq (fun k _ => pg_cn_iff (fun t ht => ?_))
  have hnn : 0 < n * n := Int.mul_pos (by omega) (by omega)
  have e0 : ((k * (n * n).toNat + t : Nat) : Int) = ((k : Int) * n + (t : Int) / n) * n + (t : Int) % n := by
    rw [Int.natCast_add, Int.natCast_mul, show (((n * n).toNat : Nat) : Int) = n * n by omega]
    have := Int.emod_add_mul_ediv (t : Int) n
    generalize (t : Int) / n = q at *
    generalize (t : Int) % n = r at *
    rw [← this]
    grind
  have h1 := mt_mod hn (t : Int)
  have h2 := mt_row_bd hn (p := (t : Int)) ⟨by omega, by omega⟩
  obtain ⟨a1, a2, a3, -⟩ := mt_cd_in (k := (k : Int)) hn (by omega) h2 h1
  rw [e0, a1, a2, a3]
section
variable {s n : Int} {S : Int → Int → Int → Prop}
theorem gr_inv (hs : s = 0 ∨ s = 1) (hG : gr_G s n S) {k u v x y : Int} (hk : 0 ≤ k ∧ k < 2 * mt_rd s) (h : S 0 x y) : S k (u + x) (v + y) ↔ S k u v := by
  constructor
  · intro h1
    have h2 := gr_sh hs hG hk (gr_sneg hs hG h) h1
    rwa [show u + x + -x = u by omega, show v + y + -y = v by omega] at h2
  · exact fun h1 => gr_sh hs hG hk h h1
theorem gr_kcn (hs : s = 0 ∨ s = 1) (hG : gr_G s n S) {a b c : Int} (hL : gr_L S n a b c) {k : Int} (hk : 0 ≤ k ∧ k < 2 * mt_rd s) : pg_cn (fun t => S k ((t : Int) / n) ((t : Int) % n)) (n * n).toNat = n * n / (a * c) * pg_b (∃ u v, S k u v) := by
  have ha := hL.1
  have hc := hL.2.2.1
  rw [gr_fold2 hL (Q := fun u v => S k u v) (fun u v x y h => gr_inv hs hG hk h)]
  congr 1
  have hac : 0 < a * c := Int.mul_pos (by omega) (by omega)
  have hbx : ∀ m : Nat, m < (a * c).toNat → (0 ≤ (m : Int) / c ∧ (m : Int) / c < a) ∧ (0 ≤ (m : Int) % c ∧ (m : Int) % c < c) := fun m hm => ⟨⟨Int.ediv_nonneg (by omega) (by omega), Int.ediv_lt_of_lt_mul (by omega) (by omega)⟩, mt_mod hc.1 _⟩
  rw [pg_cn_u1 (fun x y hx hy p q => ?_)]
  · refine pg_b_iff ⟨fun ⟨m, _, hm⟩ => ⟨_, _, hm⟩, fun ⟨u, v, h⟩ => ?_⟩
    have h1 := gr_red hs hG hL hk h
    have h2 := mt_mod ha.1 (u - v / c * b)
    have h3 := mt_mod hc.1 v
    generalize (u - v / c * b) % a = U at *
    generalize v % c = V at *
    have h4 := mt_dm (u := U) hc.1 h3
    have h5 := Int.mul_le_mul_of_nonneg_right (show U ≤ a - 1 by omega) (show 0 ≤ c by omega)
    rw [Int.sub_mul, Int.one_mul] at h5
    have h6 := Int.mul_nonneg h2.1 (show 0 ≤ c by omega)
    refine ⟨(U * c + V).toNat, by omega, ?_⟩
    rw [show (((U * c + V).toNat : Nat) : Int) = U * c + V by omega, h4.1, h4.2]
    exact h1
  · have hx1 := hbx x hx
    have hy1 := hbx y hy
    have h1 := gr_box hs hG hL hk p q hx1.1 hx1.2 hy1.1 hy1.2
    have e1 := Int.emod_add_mul_ediv (x : Int) c
    have e2 := Int.emod_add_mul_ediv (y : Int) c
    rw [h1.1, h1.2, e2] at e1
    omega
end
theorem gr_sh_pos {S : Int → Int → Int → Prop} {n a b c : Int} (hL : gr_L S n a b c) : 1 ≤ n * n / (a * c) := by
  obtain ⟨ha, hb, hc, hna, hnc, -, -⟩ := hL
  have h1 : a * c ≤ n * n := Int.mul_le_mul ha.2 hc.2 (by omega) (by omega)
  have h2 : 0 < a * c := Int.mul_pos (by omega) (by omega)
  exact (Int.le_ediv_iff_mul_le h2).mpr (by omega)
section
variable {s n : Int} {h : pg_H} {col : Nat → Int}
theorem gr_pre (hs : s = 0 ∨ s = 1) (hn : 1 ≤ n) (hD : gr_D h s n (mt_sym col s n)) {K : Nat} (hK : (K : Int) ≤ 2 * mt_rd s) : pg_cn (mt_sm col s n) (K * (n * n).toNat) = pg_cn (fun k => h 11 k ≠ -1) K * sy_sh h n := by
  have h1 := gr_rows hn (fun k u v => mt_sym col s n k u v) K
  have h2 : pg_cn (mt_sm col s n) (K * (n * n).toNat) = pg_cn (fun m => mt_sym col s n ((m : Int) / (n * n)) ((m : Int) / n % n) ((m : Int) % n)) (K * (n * n).toNat) := rfl
  rw [h2, h1]
  rw [pg_sm_eq (g := fun k => sy_sh h n * pg_b (h 11 k ≠ -1)) (fun k hk => ?_), pg_sm_mul, pg_sm_b, Int.mul_comm]
  have hk1 : (0 : Int) ≤ (k : Int) ∧ (k : Int) < 2 * mt_rd s := by omega
  rw [gr_kcn hs hD.1 hD.2.1 hk1, ← pg_b_iff (hD.2.2.2.1 k hk1), Int.toNat_natCast]
  rfl
theorem gr_N {s n : Int} (hs : s = 0 ∨ s = 1) (hn : 1 ≤ n) : (2 * mt_rd s * (n * n)).toNat = (2 * mt_rd s).toNat * (n * n).toNat := by
  have hr := mt_rd_or hs
  rw [Int.toNat_mul (by omega) (Int.mul_nonneg (by omega) (by omega))]
theorem gr_many (hs : s = 0 ∨ s = 1) (hn : 1 ≤ n) (hD : gr_D h s n (mt_sym col s n)) : pg_cn (mt_sm col s n) (2 * mt_rd s * (n * n)).toNat = h 10 7 * sy_sh h n := by
  have hr := mt_rd_or hs
  rw [gr_N hs hn, gr_pre hs hn hD (by omega), ← hD.2.2.2.2]
/-- the numbers of symmetries agree -/
theorem gr_num (hs : s = 0 ∨ s = 1) (hn : 1 ≤ n ∧ n ≤ 12) (hD : gr_D h s n (mt_sym col s n)) {a z : Int} (hN : sy_N h s n a z) (ha : 0 ≤ a ∧ a < h 10 7 * sy_sh h n) {m : Nat} (hm : mt_sm col s n m) (hma : pg_cn (mt_sm col s n) m = a) : z = m := by
  have hr := mt_rd_or hs
  rcases hN with ⟨h1, -⟩ | ⟨-, k, j, hk, hk1, hj, hj2, hz⟩
  · exact absurd ha h1
  have hP : ∀ t : Nat, (t : Int) < n * n → (sy_Pm h n k t ↔ mt_sm col s n (k.toNat * (n * n).toNat + t)) := by
    intro t ht
    have h2 : sy_Pm h n k t ↔ mt_sym col s n k ((t : Int) / n) ((t : Int) % n) := hD.2.2.1 k _ _ hk
    rw [h2]
    unfold mt_sm
    have e0 : ((k.toNat * (n * n).toNat + t : Nat) : Int) = (k * n + (t : Int) / n) * n + (t : Int) % n := by
      have hnn : 0 < n * n := Int.mul_pos (by omega) (by omega)
      rw [Int.natCast_add, Int.natCast_mul, show (((n * n).toNat : Nat) : Int) = n * n by omega, show ((k.toNat : Nat) : Int) = k by omega]
      have := Int.emod_add_mul_ediv (t : Int) n
      generalize (t : Int) / n = q at *
      generalize (t : Int) % n = r at *
      rw [← this]
      grind
    obtain ⟨a1, a2, a3, -⟩ := mt_cd_in (k := k) hn.1 hk.1 (mt_row_bd hn.1 (p := (t : Int)) ⟨by omega, ht⟩) (mt_mod hn.1 (t : Int))
    rw [e0, a1, a2, a3]
  have hpre := gr_pre hs hn.1 hD (K := k.toNat) (by omega)
  have hcn : ∀ t : Nat, (t : Int) ≤ n * n → pg_cn (mt_sm col s n) (k.toNat * (n * n).toNat + t) = pg_cn (fun t => h 11 t ≠ -1) k.toNat * sy_sh h n + pg_cn (sy_Pm h n k) t := by
    intro t ht
    rw [pg_cn_add, hpre, pg_cn_iff (P := sy_Pm h n k) (fun q hq => hP q (by omega))]
  have huni : ∀ M : Nat, mt_sm col s n M → pg_cn (mt_sm col s n) M = a → M = m := by
    intro M h1 h2
    rcases Nat.lt_trichotomy M m with h3 | h3 | h3
    · have := pg_cn_lt2 h3 h1; omega
    · exact h3
    · have := pg_cn_lt2 h3 hm; omega
  rcases hz with ⟨t, t1, t2, t3, t4⟩ | ⟨t1, -⟩
  · have e1 := huni _ ((hP t t1).mp t2) (by rw [hcn t (by omega), t3, hj])
    rw [t4, ← e1]
    unfold mt_cd
    have hnn : 0 < n * n := Int.mul_pos (by omega) (by omega)
    have b1 := mt_row_bd hn.1 (p := (t : Int)) ⟨by omega, t1⟩
    have b2 := mt_mod hn.1 (t : Int)
    rw [Int.emod_eq_of_lt b1.1 b1.2, Int.emod_eq_of_lt b2.1 b2.2, Int.natCast_add, Int.natCast_mul, show (((n * n).toNat : Nat) : Int) = n * n by omega, show ((k.toNat : Nat) : Int) = k by omega]
    have := Int.emod_add_mul_ediv (t : Int) n
    generalize (t : Int) / n = q at *
    generalize (t : Int) % n = r at *
    rw [← this]
    grind
  · exfalso
    have h1 : pg_cn (sy_Pm h n k) (n * n).toNat = pg_cn (fun t : Nat => mt_sym col s n k ((t : Int) / n) ((t : Int) % n)) (n * n).toNat := pg_cn_iff (fun t _ => hD.2.2.1 k _ _ hk)
    rw [h1, gr_kcn hs hD.1 hD.2.1 hk, pg_b_t ((hD.2.2.2.1 k hk).mp hk1), Int.mul_one] at t1
    have h2 : sy_sh h n = n * n / (h 10 4 * h 10 6) := rfl
    omega
/-- shifts -/
theorem gr_c8 (hs : s = 0 ∨ s = 1) (hn : 1 ≤ n ∧ n ≤ 12) (hD : gr_D h s n (mt_sym col s n)) : pg_cn (fun m => mt_sm col s n m ∧ (m : Int) / (n * n) = 0) (2 * mt_rd s * (n * n)).toNat = sy_sh h n := by
  have hr := mt_rd_or hs
  have hN := mt_2rn hs hn
  have hnn : 0 < n * n := Int.mul_pos (by omega) (by omega)
  have h1 := gr_pre hs hn.1 hD (K := 1) (by omega)
  have h2 : pg_cn (fun k => h 11 k ≠ -1) 1 = 1 := by
    show (0 : Int) + pg_b (h 11 0 ≠ -1) = 1
    have h3 : h 11 0 ≠ -1 := (hD.2.2.2.1 0 (gr_0k hs)).mpr ⟨0, 0, hD.1.1⟩
    rw [pg_b_t h3]
    rfl
  rw [h2, Int.one_mul, Nat.one_mul] at h1
  rw [← h1]
  have hle : n * n ≤ 2 * mt_rd s * (n * n) := by
    have := Int.mul_le_mul_of_nonneg_right (show (1 : Int) ≤ 2 * mt_rd s by omega) (show 0 ≤ n * n by omega)
    omega
  refine pg_cn_bij (f := fun m => m) (g := fun m => m) (fun m hm hp => ⟨?_, hp.1, rfl⟩) (fun m hm hp => ⟨by omega, ⟨hp, Int.ediv_eq_zero_of_lt (by omega) (by omega)⟩, rfl⟩)
  have h3 := hp.2
  have h4 := Int.lt_ediv_add_one_mul_self (m : Int) hnn
  rw [h3] at h4
  omega
/-- linear parts -/
theorem gr_c6 (hs : s = 0 ∨ s = 1) (hn : 1 ≤ n ∧ n ≤ 12) (hD : gr_D h s n (mt_sym col s n)) : pg_cn (fun m => mt_sm col s n m ∧ mt_k1 col s n m) (2 * mt_rd s * (n * n)).toNat = h 10 7 := by
  have hr := mt_rd_or hs
  have hN := mt_2rn hs hn
  rw [hD.2.2.2.2]
  have hkb : ∀ m : Nat, m < (2 * mt_rd s * (n * n)).toNat → 0 ≤ (m : Int) / (n * n) ∧ (m : Int) / (n * n) < 2 * mt_rd s := fun m hm => mt_kof hn.1 (by omega)
  refine Int.le_antisymm ?_ ?_
  · refine pg_cn_inj (f := fun m => ((m : Int) / (n * n)).toNat) (fun m hm hp => ?_) (fun x y hx hy p q e => ?_)
    · have h1 := hkb m hm
      refine ⟨by show ((m : Int) / (n * n)).toNat < _; omega, ?_⟩
      exact (hD.2.2.2.1 _ h1).mpr ⟨_, _, hp.1⟩
    · have h1 := hkb x hx
      have h2 := hkb y hy
      have e1 : ((x : Int) / (n * n)).toNat = ((y : Int) / (n * n)).toNat := e
      rcases Nat.lt_trichotomy x y with h3 | h3 | h3
      · exact absurd (by omega) (q.2 x h3 p.1)
      · exact h3
      · exact absurd (by omega) (p.2 y h3 q.1)
  · refine pg_cn_sur (f := fun m => ((m : Int) / (n * n)).toNat) (fun k hk hp => ?_)
    have hk1 : (0 : Int) ≤ (k : Int) ∧ (k : Int) < 2 * mt_rd s := by omega
    obtain ⟨u, v, huv⟩ := (hD.2.2.2.1 k hk1).mp (by rw [Int.toNat_natCast]; exact hp)
    have hcd := mt_cd_k (n := n) (k := (k : Int)) (u := u) (v := v) hn
    have hcb := mt_cdb (s := s) (u := u) (v := v) hn hk1
    have h0 : mt_sm col s n (mt_cd n k u v).toNat := by
      unfold mt_sm
      rw [show (((mt_cd n k u v).toNat : Nat) : Int) = mt_cd n k u v by omega, hcd.1, hcd.2.1, hcd.2.2]
      exact (gr_sym_mod hn.1 (Int.emod_emod _ _) (Int.emod_emod _ _)).mpr huv
    obtain ⟨m, m1, m2, m3⟩ := gr_min (P := fun m : Nat => mt_sm col s n m ∧ (m : Int) / (n * n) = k) (m := (mt_cd n k u v).toNat) ⟨h0, by rw [show (((mt_cd n k u v).toNat : Nat) : Int) = mt_cd n k u v by omega]; exact hcd.1⟩
    refine ⟨m, by omega, ⟨m2.1, fun m' h1 h2 h3 => m3 m' h1 ⟨h2, by rw [h3]; exact m2.2⟩⟩, ?_⟩
    show ((m : Int) / (n * n)).toNat = k
    rw [m2.2]
    rfl
end
