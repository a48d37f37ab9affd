/-! kinds: half turns alone; mirrors of one direction -/
section
variable {h : pg_H} {col : Nat → Int} {s n : Int}
theorem gr_t2h {S : Int → Int → Int → Prop} (hs : s = 0 ∨ s = 1) (hG : gr_G s n S) {P Q : Int} (h2 : gr_t S s P Q = 2) : gr_fx S s (gr_hf s) P Q := by
  rcases hs with rfl | rfl
  · rcases gr_tv0 hG P Q with h1 | ⟨h1, h3⟩ | ⟨h1, -⟩
    · omega
    · exact h3
    · omega
  · rcases gr_tv1 hG P Q with h1 | ⟨h1, h3⟩ | ⟨h1, -⟩ | ⟨h1, -⟩
    · omega
    · exact h3
    · omega
    · omega
/-- half turns: four places in the cell -/
theorem gr_four (hs : s = 0 ∨ s = 1) (hD : gr_D h s n (mt_sym col s n)) (hW : sg_W h) : pg_cn (fun m => gr_fx (mt_sym col s n) s (gr_hf s) ((m : Int) % h 15 5) ((m : Int) / h 15 5)) (h 15 5 * h 15 6).toNat ≤ 4 := by
  have hG := hD.1
  have hhf := gr_hfb hs
  have hk : 0 ≤ gr_hf s ∧ gr_hf s < 2 * mt_rd s := by omega
  rcases (Classical.em (∃ u v : Int, mt_sym col s n (gr_hf s) u v)).symm with hno | ⟨u0, v0, hu0⟩
  · rw [pg_cn_0 (fun j _ hp => by obtain ⟨u, v, hp1, -, -⟩ := hp; exact hno ⟨u, v, hp1⟩)]
    decide
  · have hL := hD.2.1
    have ha := hL.1
    have hc := hL.2.2.1
    have hin := hL.2.2.2.2.2.1
    have hform : ∀ m : Nat, gr_fx (mt_sym col s n) s (gr_hf s) ((m : Int) % h 15 5) ((m : Int) / h 15 5) → ∃ i j : Int, (m : Int) % h 15 5 = 3 * (u0 + i * h 10 4 + j * h 10 5) ∧ (m : Int) / h 15 5 = 3 * (v0 + j * h 10 6) := by
      rintro m ⟨u, v, q1, q2, q3⟩
      rw [(gr_hfx hs _ _).1] at q2
      rw [(gr_hfx hs _ _).2] at q3
      have q4 := (hin _ _).mp ((gr_two hs hG hk hu0).mp q1)
      unfold mt_in at q4
      rw [Int.sub_zero, Int.sub_zero] at q4
      obtain ⟨j, hj⟩ := q4.1
      have ej : (v - v0) / h 10 6 = j := by rw [hj]; exact Int.mul_ediv_cancel_left _ (by omega)
      rw [ej] at q4
      obtain ⟨i, hi⟩ := q4.2
      rw [Int.mul_comm (h 10 4) i] at hi
      rw [Int.mul_comm (h 10 6) j] at hj
      exact ⟨i, j, by omega, by omega⟩
    have hg : ∀ m : Nat, ∃ ij : Int × Int, gr_fx (mt_sym col s n) s (gr_hf s) ((m : Int) % h 15 5) ((m : Int) / h 15 5) → ((m : Int) % h 15 5 = 3 * (u0 + ij.1 * h 10 4 + ij.2 * h 10 5) ∧ (m : Int) / h 15 5 = 3 * (v0 + ij.2 * h 10 6)) := fun m => by
      rcases Classical.em (gr_fx (mt_sym col s n) s (gr_hf s) ((m : Int) % h 15 5) ((m : Int) / h 15 5)) with h1 | h1
      · obtain ⟨i, j, h2⟩ := hform m h1
        exact ⟨(i, j), fun _ => h2⟩
      · exact ⟨(0, 0), fun h2 => absurd h2 h1⟩
    have h4 : pg_cn (fun _ => True) 4 = 4 := pg_cn_all (fun j _ => trivial)
    rw [← h4]
    refine pg_cn_inj (f := fun m => ((Classical.choose (hg m)).1 % 2 + 2 * ((Classical.choose (hg m)).2 % 2)).toNat) (fun m hm hp => ⟨?_, trivial⟩) (fun x y hx hy p q e => ?_)
    · show ((Classical.choose (hg m)).1 % 2 + 2 * ((Classical.choose (hg m)).2 % 2)).toNat < 4
      omega
    · have e1 := Classical.choose_spec (hg x) p
      have e2 := Classical.choose_spec (hg y) q
      have e3 : ((Classical.choose (hg x)).1 % 2 + 2 * ((Classical.choose (hg x)).2 % 2)).toNat = ((Classical.choose (hg y)).1 % 2 + 2 * ((Classical.choose (hg y)).2 % 2)).toNat := e
      generalize (Classical.choose (hg x)).1 = i at *
      generalize (Classical.choose (hg x)).2 = j at *
      generalize (Classical.choose (hg y)).1 = i' at *
      generalize (Classical.choose (hg y)).2 = j' at *
      obtain ⟨di, hdi⟩ : ∃ d : Int, i = i' + 2 * d := ⟨(i - i') / 2, by omega⟩
      obtain ⟨dj, hdj⟩ : ∃ d : Int, j = j' + 2 * d := ⟨(j - j') / 2, by omega⟩
      have hlam := gr_sh hs hG (gr_0k hs) (gr_smul hs hG ((gr_L_a hL _).mpr (Int.dvd_refl (h 10 4))) di) (gr_smul hs hG hL.2.2.2.2.2.2 dj)
      rw [Int.mul_zero, Int.add_zero] at hlam
      have hxy : (x : Int) = (y : Int) := by
        refine gr_cu hD hW (m := (x : Int)) (m' := (y : Int)) ⟨by omega, by omega⟩ ⟨by omega, by omega⟩ hlam ?_ ?_
        · rw [e1.1, e2.1, hdi, hdj, Int.add_mul, Int.add_mul, Int.mul_assoc, Int.mul_assoc]
          omega
        · rw [e1.2, e2.2, hdj, Int.add_mul, Int.mul_assoc]
          omega
      omega
/-- no mirrors, but glides; half turns at most: two cones at most -/
theorem gr_c2 (hs : s = 0 ∨ s = 1) (hn : 1 ≤ n ∧ n ≤ 12) (hD : gr_D h s n (mt_sym col s n)) (hS : sg_D h s) {k u v : Int} (hk : mt_rd s ≤ k ∧ k < 2 * mt_rd s) (hodd : mt_sym col s n k u v) : h 16 2 ≤ 2 := by
  have hr := mt_rd_or hs
  have hG := hD.1
  have hcones := (gr_cones hs hn hD hS (r := 2) (by decide)).1
  obtain ⟨hW, -, -⟩ := hS
  have hcc := gr_cc0 hs hn hD hW (fun t m => t = 2 ∧ m = 0) 2 (fun t m hF _ => by omega)
  have e1 : pg_cn (fun i => mt_rp col s n i ∧ (mt_tu col s n i = 2 ∧ mt_mi col s n i = 0)) (6 * n * (6 * n)).toNat = mt_cc col s n 2 0 := pg_cn_iff (fun i _ => by
    have : 0 ≤ mt_mi col s n i := (pg_cn_bd _ _).1
    constructor
    · rintro ⟨q1, q2, q3⟩; exact ⟨q1, q2, by omega⟩
    · rintro ⟨q1, q2, q3⟩; exact ⟨q1, q2, by omega⟩)
  rw [e1] at hcc
  rw [show ((2 : Nat) : Int) = 2 from rfl] at hcones
  rw [hcones]
  have hbd := mt_cc_bd (s := s) hn col 2 0
  have hhf := gr_hfb hs
  have hfour := gr_four hs hD hW
  have hle : pg_cn (fun j => sg_t h s j = 2 ∧ sg_m h s j = 0) (h 15 5 * h 15 6).toNat ≤ pg_cn (fun m => gr_fx (mt_sym col s n) s (gr_hf s) ((m : Int) % h 15 5) ((m : Int) / h 15 5)) (h 15 5 * h 15 6).toNat := by
    refine pg_cn_inj (f := fun m => m) (fun m hm hp => ⟨hm, ?_⟩) (fun a b _ _ _ _ e => e)
    have h2 := hp.1
    rw [(gr_sgt hD hs hW m).1] at h2
    rw [hW.1]
    exact gr_t2h hs hG h2
  -- four linear parts, if there is a half turn
  rcases (Classical.em (∃ x y : Int, mt_sym col s n (gr_hf s) x y)).symm with hno | ⟨x, y, hxy⟩
  · have hz : pg_cn (fun j => sg_t h s j = 2 ∧ sg_m h s j = 0) (h 15 5 * h 15 6).toNat = 0 := pg_cn_0 (fun j _ hp => by
      have h2 := hp.1
      rw [(gr_sgt hD hs hW j).1] at h2
      obtain ⟨u1, v1, hp1, -, -⟩ := gr_t2h hs hG h2
      exact hno ⟨u1, v1, hp1⟩)
    have hl := (gr_l hs hD).1
    rw [hz, Int.zero_mul] at hcc
    rcases Int.mul_eq_zero.mp hcc.symm with h3 | h3 <;> omega
  · have hk0 : 0 ≤ k ∧ k < 2 * mt_rd s := by omega
    have hh0 : 0 ≤ gr_hf s ∧ gr_hf s < 2 * mt_rd s := by omega
    have hprod := hG.2.1 _ _ _ _ _ _ hh0 hk0 hxy hodd
    have hpb := mt_lp_bd hs hh0 hk0
    have hpo : ¬ mt_lp s (gr_hf s) k < mt_rd s := fun h0 => by
      have := (gr_cjb hs hh0 hk0).2.2.2.mp h0
      omega
    have hne : mt_lp s (gr_hf s) k ≠ k := by
      intro he
      have e2 := gr_lp hs hh0 hk0 1 0
      have e3 := gr_lp hs hh0 hk0 0 1
      rw [he, (gr_hfx hs _ _).1, (gr_hfx hs _ _).2] at e2 e3
      have e4 := gr_inv2 hs hk 1 0
      have e5 := gr_bas s k (mt_x s k 1 0) (mt_y s k 1 0)
      have z1 : mt_x s k 1 0 = 0 := by omega
      have z2 : mt_y s k 1 0 = 0 := by omega
      rw [z1, z2, (gr_00 s k).1] at e4
      omega
    have hl4 : 4 ≤ h 10 7 := by
      rw [hD.2.2.2.2]
      have h4 : pg_cn (fun _ => True) 4 = 4 := pg_cn_all (fun j _ => trivial)
      rw [← h4]
      have pk : ∀ j : Int, (0 ≤ j ∧ j < 2 * mt_rd s) → (∃ u v, mt_sym col s n j u v) → j.toNat < (2 * mt_rd s).toNat ∧ h 11 j.toNat ≠ -1 := fun j hj hex => ⟨by omega, (hD.2.2.2.1 j hj).mpr hex⟩
      refine pg_cn_sur (f := fun m => if m = 0 then 0 else if m = (gr_hf s).toNat then 1 else if m = k.toNat then 2 else 3) (fun i hi _ => ?_)
      rcases (show i = 0 ∨ i = 1 ∨ i = 2 ∨ i = 3 by omega) with rfl | rfl | rfl | rfl
      · obtain ⟨q1, q2⟩ := pk 0 (gr_0k hs) ⟨0, 0, hG.1⟩
        exact ⟨0, q1, q2, rfl⟩
      · obtain ⟨q1, q2⟩ := pk (gr_hf s) hh0 ⟨x, y, hxy⟩
        exact ⟨_, q1, q2, by rw [if_neg (by omega), if_pos rfl]⟩
      · obtain ⟨q1, q2⟩ := pk k hk0 ⟨u, v, hodd⟩
        exact ⟨_, q1, q2, by rw [if_neg (by omega), if_neg (by omega), if_pos rfl]⟩
      · obtain ⟨q1, q2⟩ := pk _ hpb ⟨_, _, hprod⟩
        exact ⟨_, q1, q2, by rw [if_neg (by omega), if_neg (by omega), if_neg (by omega)]⟩
    rcases (show mt_cc col s n 2 0 ≤ 2 ∨ 3 ≤ mt_cc col s n 2 0 by omega) with h5 | h5
    · exact h5
    · exfalso
      have h6 := Int.mul_le_mul h5 hl4 (by decide) (by omega)
      omega
end
section
variable {s n : Int} {S : Int → Int → Int → Prop}
/-- along a mirror all hangs together -/
theorem gr_line (hs : s = 0 ∨ s = 1) {k P Q P' Q' u v : Int} (hk : mt_rd s ≤ k ∧ k < 2 * mt_rd s) (hS : S k u v) (h1 : mt_x s k P Q + 6 * u = P) (h2 : mt_y s k P Q + 6 * v = Q) (h3 : mt_x s k P' Q' + 6 * u = P') (h4 : mt_y s k P' Q' + 6 * v = Q') : gr_Cn S s P Q P' Q' := by
  obtain ⟨Bx, By, -, -, hA, -⟩ := gr_axes hs hk
  have e := gr_sub s k P' Q' P Q
  obtain ⟨t, t1, t2⟩ := hA (P' - P) (Q' - Q) (by omega) (by omega)
  have hf : gr_fx S s k P Q := ⟨u, v, hS, h1, h2⟩
  have hN : ∀ i : Nat, gr_Cn S s P Q (P + (i : Int) * (ri_ax s k 25).2.1) (Q + (i : Int) * (ri_ax s k 25).2.2) := by
    intro i
    induction i with
    | zero =>
      rw [show ((0 : Nat) : Int) = 0 from rfl, Int.zero_mul, Int.zero_mul, Int.add_zero, Int.add_zero]
      exact fun f _ => Iff.rfl
    | succ i ih =>
      refine gr_Cn_tr ih ?_
      have h5 := gr_Cn_ax hk (gr_fx_ax hs hk hf (i : Int))
      have e9 : ∀ z : Int, ((i : Nat) : Int) * z + z = ((i + 1 : Nat) : Int) * z := fun z => by rw [Int.natCast_add i 1, Int.add_mul]; simp
      rw [Int.add_assoc, Int.add_assoc, e9, e9] at h5
      exact h5
  rcases (show 0 ≤ t ∨ 0 ≤ -t by omega) with h6 | h6
  · have h7 := hN t.toNat
    rw [show ((t.toNat : Nat) : Int) = t by omega, ← t1, ← t2, show P + (P' - P) = P' by omega, show Q + (Q' - Q) = Q' by omega] at h7
    exact h7
  · -- the other way round
    have hf' : gr_fx S s k P' Q' := ⟨u, v, hS, h3, h4⟩
    have hN' : ∀ i : Nat, gr_Cn S s P' Q' (P' + (i : Int) * (ri_ax s k 25).2.1) (Q' + (i : Int) * (ri_ax s k 25).2.2) := by
      intro i
      induction i with
      | zero =>
        rw [show ((0 : Nat) : Int) = 0 from rfl, Int.zero_mul, Int.zero_mul, Int.add_zero, Int.add_zero]
        exact fun f _ => Iff.rfl
      | succ i ih =>
        refine gr_Cn_tr ih ?_
        have h5 := gr_Cn_ax hk (gr_fx_ax hs hk hf' (i : Int))
        have e9 : ∀ z : Int, ((i : Nat) : Int) * z + z = ((i + 1 : Nat) : Int) * z := fun z => by rw [Int.natCast_add i 1, Int.add_mul]; simp
        rw [Int.add_assoc, Int.add_assoc, e9, e9] at h5
        exact h5
    have h7 := hN' (-t).toNat
    rw [show (((-t).toNat : Nat) : Int) = -t by omega, Int.neg_mul, Int.neg_mul, ← t1, ← t2, show P' + -(P' - P) = P by omega, show Q' + -(Q' - Q) = Q by omega] at h7
    exact gr_Cn_sy h7
/-- only one k turns over, where nothing turns -/
theorem gr_onek (hs : s = 0 ∨ s = 1) (hG : gr_G s n S) (hmx : ∀ P Q : Int, gr_t S s P Q ≤ 1) {k j u v x y : Int} (hk : mt_rd s ≤ k ∧ k < 2 * mt_rd s) (hj : mt_rd s ≤ j ∧ j < 2 * mt_rd s) (h1 : S k u v) (h2 : S j x y) : j = k := by
  have hr := mt_rd_or hs
  have hk0 : 0 ≤ k ∧ k < 2 * mt_rd s := by omega
  have hj0 : 0 ≤ j ∧ j < 2 * mt_rd s := by omega
  have h3 := hG.2.1 _ _ _ _ _ _ hk0 hj0 h1 h2
  have hb := mt_lp_bd hs hk0 hj0
  have hlt : mt_lp s k j < mt_rd s := (gr_cjb hs hk0 hj0).2.2.2.mpr (by omega)
  rcases (show mt_lp s k j = 0 ∨ 0 < mt_lp s k j by omega) with h0 | h0
  · have h4 := (mt_li_i hs hk0 hj0).mp h0
    have h5 := gr_sq0 ⟨s.toNat, by omega⟩ ⟨k.toNat, by omega⟩
    simp only at h5
    rw [show ((s.toNat : Nat) : Int) = s by omega, show ((k.toNat : Nat) : Int) = k by omega] at h5
    rw [h4, h5 hk.1 hk.2]
  · obtain ⟨⟨P, Q, h4⟩, -⟩ := gr_rot hs hG ⟨h0, hlt⟩ h3
    have := hmx P Q
    omega
/-- the mirrors of one direction: lines, by their numbers -/
theorem gr_lines (hs : s = 0 ∨ s = 1) (hn : 1 ≤ n) (hG : gr_G s n S) {k u0 v0 : Int} (hk : mt_rd s ≤ k ∧ k < 2 * mt_rd s) (h0 : S k u0 v0) (hm1 : mt_x s k u0 v0 = -u0) (hm2 : mt_y s k u0 v0 = -v0) : ∃ gx gy : Int, S 0 gx gy ∧ (mt_x s k gx gy = -gx ∧ mt_y s k gx gy = -gy) ∧ (¬ ∃ x y : Int, S 0 x y ∧ gx = 2 * x ∧ gy = 2 * y) ∧ (∀ x y : Int, S 0 x y → mt_x s k x y = -x → mt_y s k x y = -y → ∃ e : Int, x = e * gx ∧ y = e * gy) := by
  obtain ⟨Bx, By, hB0, hB1, -, hB2⟩ := gr_axes hs hk
  have hH : gr_H (fun i => S 0 (i * Bx) (i * By)) := ⟨by show S 0 (0 * Bx) (0 * By); rw [Int.zero_mul, Int.zero_mul]; exact hG.1, fun i j h1 h2 => by
    have := gr_ssub hs hG h1 h2
    rwa [← Int.sub_mul, ← Int.sub_mul] at this⟩
  have hHn : S 0 (n * Bx) (n * By) := gr_per0 hG Bx By
  obtain ⟨d, d1, d2, d3⟩ := gr_min (P := fun d : Nat => 1 ≤ d ∧ S 0 ((d : Int) * Bx) ((d : Int) * By)) (m := n.toNat) ⟨by omega, by rw [show ((n.toNat : Nat) : Int) = n by omega]; exact hHn⟩
  have hdv := gr_H_dvd hH (z := (d : Int)) (by omega) d2.2 (fun j j1 j2 j3 => d3 j.toNat (by omega) ⟨by omega, by rw [show ((j.toNat : Nat) : Int) = j by omega]; exact j3⟩)
  have hgen : ∀ x y : Int, S 0 x y → mt_x s k x y = -x → mt_y s k x y = -y → ∃ e : Int, x = e * ((d : Int) * Bx) ∧ y = e * ((d : Int) * By) := by
    intro x y q1 q2 q3
    obtain ⟨t, t1, t2⟩ := hB2 x y q2 q3
    rw [t1, t2] at q1
    obtain ⟨e, he⟩ := (hdv t).mp q1
    refine ⟨e, ?_, ?_⟩
    · rw [t1, he, Int.mul_comm (d : Int) e, Int.mul_assoc]
    · rw [t2, he, Int.mul_comm (d : Int) e, Int.mul_assoc]
  have hgm : mt_x s k ((d : Int) * Bx) ((d : Int) * By) = -((d : Int) * Bx) ∧ mt_y s k ((d : Int) * Bx) ((d : Int) * By) = -((d : Int) * By) := by
    rw [(gr_sc s k _ _ _).1, (gr_sc s k _ _ _).2, hB1.1, hB1.2, Int.mul_neg, Int.mul_neg]
    exact ⟨rfl, rfl⟩
  refine ⟨_, _, d2.2, hgm, ?_, hgen⟩
  rintro ⟨x, y, q1, q2, q3⟩
  have m1 : mt_x s k x y = -x ∧ mt_y s k x y = -y := by
    have e := gr_sc s k 2 x y
    rw [← q2, ← q3, hgm.1, hgm.2] at e
    omega
  obtain ⟨e, e1, e2⟩ := hgen x y q1 m1.1 m1.2
  rw [e1] at q2
  rw [e2] at q3
  -- d B = 2 e d B: no
  rcases hB0 with hb | hb
  · have hz : (d : Int) * Bx ≠ 0 := Int.mul_ne_zero (by omega) hb
    have : (d : Int) * Bx * 1 = (d : Int) * Bx * (2 * e) := by grind
    have := Int.eq_of_mul_eq_mul_left hz this
    omega
  · have hz : (d : Int) * By ≠ 0 := Int.mul_ne_zero (by omega) hb
    have : (d : Int) * By * 1 = (d : Int) * By * (2 * e) := by grind
    have := Int.eq_of_mul_eq_mul_left hz this
    omega
end
