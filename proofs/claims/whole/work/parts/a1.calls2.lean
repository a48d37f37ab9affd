/-! the calls, side by side: the rest -/
section
variable {h g : pg_H} {s n : Int}
theorem jw_base (hj : jn h g s n) (w : Int) (hw : pg_inR w) : jw pm_P_base pm_T_base [.inr (.inr 0), .inl w] h (rm g s n) := by
  obtain ⟨hI, ⟨hB, hC, hG, hK, hJ⟩, e1, e2, e3⟩ := id hj
  have hn := hB.2.1
  refine ⟨_, _, ct_base hI w hw, re_base hB hC w hw, ?_⟩
  rintro r1 h1 r2 h2 ⟨p1, p2, p3⟩ ⟨z, q1, ⟨g', q2, q3⟩, q4, q5, q6, q7⟩
  have hjj := jn_c (jn_r0 hj q3 (by decide) (by decide) (by decide)) p1
  by_cases hv : 0 ≤ w ∧ w ≤ 2
  · obtain ⟨a1, a2⟩ := p3 hv
    have hL := (jn_D hj a1 p1.2.1).2.1
    refine ⟨z, ?_, q1, g', s, n, q2, hjj⟩
    rw [a2]
    congr 2
    rcases (show w = 0 ∨ w = 1 ∨ w = 2 by omega) with h5 | h5 | h5
    · rw [if_pos h5]; exact (gr_refA hn.1 hL (q5 h5)).symm
    · rw [if_neg (by omega), if_pos h5]
      obtain ⟨c, c1, c2⟩ := q6 h5
      rw [gr_refC hn.1 hL c1] at c2
      exact (gr_refB hn.1 hL c2).symm
    · rw [if_neg (by omega), if_neg (by omega)]; exact (gr_refC hn.1 hL (q7 h5)).symm
  · rw [q4 hv] at q1
    exact ⟨_, p2 hv, q1, g', s, n, q2, hjj⟩
theorem jw_symmetry (hj : jn h g s n) (a : Int) (ha : pg_inR a) (w : Int) (hw : pg_inR w) : jw pm_P_symmetry pm_T_symmetry [.inr (.inr 0), .inl a, .inl w] h (rm g s n) := by
  obtain ⟨hI, ⟨hB, hC, hG, hK, hJ⟩, e1, e2, e3⟩ := id hj
  have hn := hB.2.1
  refine ⟨_, _, ct_symmetry hI a ha w hw, re_symmetry hB hC hK a ha w hw, ?_⟩
  rintro r1 h1 r2 h2 ⟨p1, p2, p3⟩ ⟨g', z, q2, q3, q4, q5, q6, q7, q8⟩
  have hjj := jn_c (jn_rs hj q3 q4 q5 (by decide) (by decide)) p1
  by_cases hv : 0 ≤ w ∧ w ≤ 2
  · obtain ⟨a1, y, a2, a3⟩ := p3 hv
    have hD := jn_D hj a1 p1.2.1
    have hm := gr_many hB.1 hn.1 hD
    refine ⟨z, ?_, q6, g', s, n, q2, hjj⟩
    rw [a3]
    congr 2
    by_cases hr : 0 ≤ a ∧ a < pg_cn (mt_sm (g 1) s n) (2 * mt_rd s * (n * n)).toNat
    · obtain ⟨m, m1, m2, m3, m4⟩ := (q8 hv).2 hr
      have hy := gr_num hB.1 hn hD a2 (by rw [← hm]; exact hr) m2 m3
      rw [hy, if_neg (by omega), m4]
    · rw [(q8 hv).1 hr]
      rcases a2 with ⟨-, a5⟩ | ⟨a4, -⟩
      · rw [if_pos a5]
      · rw [← hm] at a4
        exact absurd a4 hr
  · rw [q7 hv] at q6
    exact ⟨_, p2 hv, q6, g', s, n, q2, hjj⟩
theorem jn_V {h' : pg_H} {z : Int} (hj : jn h g s n) (hf : pg_fr [10, 11, 12] h h') (hJ : cq_J h' s n) (hV : sy_V h' s n z) : pg_cn (fun m => mt_chg (g 1) s n ((m : Int) / (n * n)) ((m : Int) / n % n) ((m : Int) % n)) (2 * mt_rd s * (n * n)).toNat = z := by
  obtain ⟨hI, ⟨hB, -⟩, e1, -⟩ := id hj
  have e7 : h' 7 = h 7 := hf 7 (by decide)
  exact gr_c9 hB.1 hB.2.1 (jn_D hj hJ e7) hJ.1.2.1 hJ.1.2.2.1 (fun p hp => by rw [e7]; exact e1 p hp) hV
theorem jw_ways (hj : jn h g s n) : jw pm_P_ways pm_T_ways [.inr (.inr 0)] h (rm g s n) := by
  obtain ⟨hI, ⟨hB, hC, hG, hK, hJ⟩, e1, e2, e3⟩ := id hj
  have hn := hB.2.1
  refine ⟨_, _, ct_ways hI, re_ways hB hC, ?_⟩
  rintro r1 h1 r2 h2 ⟨p1, h', v, p2, p3, p4, p5⟩ ⟨g', L, q2, q3, q4, q5⟩
  have hjj := jn_c (jn_r0 hj q3 (by decide) (by decide) (by decide)) p1
  refine ⟨_, ?_, q4, g', s, n, q2, hjj⟩
  have hD := jn_D hj p3 (p2 7 (by decide))
  have hm := gr_many hB.1 hn.1 hD
  have hv := jn_V hj p2 p3 p4
  have hw := gr_ways hB.1 hn hC q5
  rw [hv, hm] at hw
  have hl := (gr_l hB.1 hD).1
  have hsh := gr_sh_pos hD.2.1
  have e5 : sy_sh h' n = n * n / (h' 10 4 * h' 10 6) := rfl
  have hpos : 0 < h' 10 7 * sy_sh h' n := Int.mul_pos (by omega) (by omega)
  rw [p5, if_neg (by omega), hw, Int.mul_ediv_cancel _ (by omega)]
theorem jw_least (hj : jn h g s n) (x : Int) (hx : pg_inR x) (y : Int) (hy : pg_inR y) : jw pm_P_least pm_T_least [.inr (.inr 0), .inl x, .inl y] h (rm g s n) := by
  obtain ⟨hI, ⟨hB, hC, hG, hK, hJ⟩, e1, e2, e3⟩ := id hj
  have hn := hB.2.1
  refine ⟨_, _, ct_least hI x hx y hy, re_least hB hC hK x hx y hy, ?_⟩
  rintro r1 h1 r2 h2 ⟨p1, p2, p3⟩ ⟨q1, g', q2, q3, q4, q5⟩
  have hjj := jn_c (jn_rs hj q3 q4 q5 (by decide) (by decide)) p1
  refine ⟨_, ?_, q1, g', s, n, q2, hjj⟩
  have hD := jn_D hj p2 p1.2.1
  have hb := mt_pt_bd hn.1 hn.2 (mt_mod hn.1 x) (mt_mod hn.1 y)
  have hd := mt_dm (u := y % n) hn.1 (mt_mod hn.1 x)
  have e : (((mt_pt n (x % n) (y % n)).toNat : Nat) : Int) = mt_pt n (x % n) (y % n) := by omega
  rw [p3, (gr_lo hB.1 hn hD (q := (mt_pt n (x % n) (y % n)).toNat) (by omega)).1, e]
  unfold mt_pt
  rw [hd.1, hd.2]
theorem jw_orbit (hj : jn h g s n) (x : Int) (hx : pg_inR x) (y : Int) (hy : pg_inR y) : jw pm_P_orbit pm_T_orbit [.inr (.inr 0), .inl x, .inl y] h (rm g s n) := by
  obtain ⟨hI, ⟨hB, hC, hG, hK, hJ⟩, e1, e2, e3⟩ := id hj
  have hn := hB.2.1
  refine ⟨_, _, ct_orbit hI x hx y hy, re_orbit hB hC hK x hx y hy, ?_⟩
  rintro r1 h1 r2 h2 ⟨p1, p2, p3⟩ ⟨q1, g', q2, q3, q4, q5⟩
  have hjj := jn_c (jn_rs hj q3 q4 q5 (by decide) (by decide)) p1
  refine ⟨_, ?_, q1, g', s, n, q2, hjj⟩
  have hD := jn_D hj p2 p1.2.1
  have hb := mt_pt_bd hn.1 hn.2 (mt_mod hn.1 x) (mt_mod hn.1 y)
  have hd := mt_dm (u := y % n) hn.1 (mt_mod hn.1 x)
  have e : (((mt_pt n (x % n) (y % n)).toNat : Nat) : Int) = mt_pt n (x % n) (y % n) := by omega
  rw [p3]
  congr 2
  refine pg_cn_iff (fun q hq => ?_)
  rw [(gr_lo hB.1 hn hD (q := (mt_pt n (x % n) (y % n)).toNat) (by omega)).1, (gr_lo hB.1 hn hD (q := q) (by omega)).1, e]
  unfold mt_pt
  rw [hd.1, hd.2]
theorem jw_place (hj : jn h g s n) (p : Int) (hp : pg_inR p) (q : Int) (hq : pg_inR q) (w : Int) (hw : pg_inR w) : jw pm_P_place pm_T_place [.inr (.inr 0), .inl p, .inl q, .inl w] h (rm g s n) := by
  obtain ⟨hI, ⟨hB, hC, hG, hK, hJ⟩, e1, e2, e3⟩ := id hj
  have hn := hB.2.1
  refine ⟨_, _, ct_place hI p hp q hq w hw, re_place hB hC hK hJ p hp q hq w hw, ?_⟩
  rintro r1 h1 r2 h2 ⟨p1, p2, p3⟩ ⟨g', z, q2, q3, q4, q5, q6, q7, q8⟩
  have hjj := jn_c (jn_r hj q3 (by decide) q4 q5) p1
  by_cases hv : 0 ≤ w ∧ w ≤ 1
  · obtain ⟨a1, a2⟩ := p3 hv
    have hD := jn_D hj a1 p1.2.1
    have hpl := gr_place hB.1 hn hD (P := p % (6 * n)) (Q := q % (6 * n)) (mt_mod (by omega) _) (mt_mod (by omega) _)
    refine ⟨z, ?_, q6, g', s, n, q2, hjj⟩
    rw [a2, q8 hv, hpl.1, hpl.2]
  · rw [q7 hv] at q6
    exact ⟨_, p2 hv, q6, g', s, n, q2, hjj⟩
theorem jw_feature (hj : jn h g s n) (a : Int) (ha : pg_inR a) (b : Int) (hb : pg_inR b) : jw pm_P_feature pm_T_feature [.inr (.inr 0), .inl a, .inl b] h (rm g s n) := by
  obtain ⟨hI, ⟨hB, hC, hG, hK, hJ⟩, e1, e2, e3⟩ := id hj
  have hn := hB.2.1
  refine ⟨_, _, ct_feature hI a ha b hb, re_feature hB hC hK hJ a ha b hb, ?_⟩
  rintro r1 h1 r2 h2 ⟨p1, p2, p3⟩ ⟨g', z, q2, q3, q4, q5, q6, q7, q8⟩
  have hjj := jn_c (jn_r hj q3 (by decide) q4 q5) p1
  by_cases hv : (0 ≤ a ∧ a ≤ 4) ∧ (a < 2 → b = 2 ∨ b = 3 ∨ b = 4 ∨ b = 6)
  · obtain ⟨a1, a2, a3⟩ := p3 hv
    have hD := jn_D hj a1 p1.2.1
    obtain ⟨f0, f1, f2, f3, f4⟩ := q8 hv
    refine ⟨z, ?_, q6, g', s, n, q2, hjj⟩
    rw [a3]
    congr 2
    have hcn := fun (hr : b.toNat < 7) => gr_cones hB.1 hn hD a2 (r := b.toNat) hr
    rcases (show a = 0 ∨ a = 1 ∨ a = 2 ∨ a = 3 ∨ a = 4 by omega) with h5 | h5 | h5 | h5 | h5
    · have hb4 := hv.2 (by omega)
      have hc := hcn (by omega)
      rw [show ((b.toNat : Nat) : Int) = b by omega] at hc
      rw [if_pos h5, f0 h5, hc.1]
    · have hb4 := hv.2 (by omega)
      have hc := hcn (by omega)
      rw [show ((b.toNat : Nat) : Int) = b by omega] at hc
      rw [if_neg (by omega), if_pos h5, f1 h5, hc.2]
    · rw [if_neg (by omega), if_neg (by omega), if_pos h5]
      exact gr_edges hB.1 hn hD a2 (f2 h5)
    · rw [if_neg (by omega), if_neg (by omega), if_neg (by omega), if_pos h5]
      rcases f3 h5 with ⟨c1, c2⟩ | ⟨c1, e, c2, c3⟩
      · rw [a2.2.2.2.1, pg_if_f (fun q => c1 ((gr_od hB.1 hn hD).mp q)), c2]
      · rw [(gr_feat hB.1 hn hD a2 c2).1, pg_if_t c1, c3]
    · rw [if_neg (by omega), if_neg (by omega), if_neg (by omega), if_neg (by omega)]
      rcases f4 h5 with ⟨c1, c2⟩ | ⟨c1, e, c2, c3⟩
      · rw [a2.2.2.2.2, pg_if_t ((gr_od hB.1 hn hD).mpr c1), c2]
      · rw [(gr_feat hB.1 hn hD a2 c2).2, pg_if_f c1, c3]
  · rw [q7 hv] at q6
    exact ⟨_, p2 hv, q6, g', s, n, q2, hjj⟩
theorem jw_kind (hj : jn h g s n) : jw pm_P_kind pm_T_kind [.inr (.inr 0)] h (rm g s n) := by
  obtain ⟨hI, ⟨hB, hC, hG, hK, hJ⟩, e1, e2, e3⟩ := id hj
  have hn := hB.2.1
  refine ⟨_, _, ct_kind hI, re_kind hB hC hK hJ, ?_⟩
  rintro r1 h1 r2 h2 ⟨p1, p2, p3, p4⟩ ⟨q1, g', q2, q3, q4, q5⟩
  have hjj := jn_c (jn_r hj q3 (by decide) q4 q5) p1
  refine ⟨_, ?_, q1, g', s, n, q2, hjj⟩
  rw [p4, gr_kind hB.1 hn (jn_D hj p2 p1.2.1) p3]
theorem jw_halves (hj : jn h g s n) : jw pm_P_halves pm_T_halves [.inr (.inr 0)] h (rm g s n) := by
  obtain ⟨hI, ⟨hB, hC, hG, hK, hJ⟩, e1, e2, e3⟩ := id hj
  have hn := hB.2.1
  refine ⟨_, _, ct_halves hI, re_halves hB hC hK, ?_⟩
  rintro r1 h1 r2 h2 ⟨p1, p2, p3, p4⟩ ⟨g', q2, q3, q4, q5, q6⟩
  have hjj := jn_c (jn_rs hj q3 q4 (fun _ => q5) (by decide) (by decide)) p1
  refine ⟨_, ?_, q6, g', s, n, q2, hjj⟩
  rw [p4, gr_halves hB.1 hn (jn_D hj p2 p1.2.1) p3]
theorem jw_spread (hj : jn h g s n) : jw pm_P_spread pm_T_spread [.inr (.inr 0)] h (rm g s n) := by
  obtain ⟨hI, ⟨hB, hC, hG, hK, hJ⟩, e1, e2, e3⟩ := id hj
  have hn := hB.2.1
  have hnn := mt_nn hn.1 hn.2
  refine ⟨_, _, ct_spread hI, re_spread hB hC hG, ?_⟩
  rintro r1 h1 r2 h2 ⟨p1, p2, p3, p4⟩ ⟨g', lp, q2, q3, q4, q5, q6, q7, q8, q9, q10, q11⟩
  obtain ⟨s1, s2⟩ := gr_spread hB.1 hn hG e2 e3 q4 q5 e1
  rw [s2] at p1
  refine ⟨_, p1, q11, g', s, n, q2, p2, ⟨rm_B_fr hB q3 (by decide), fun p hp => ?_, ⟨by omega, fun j hjj => by omega⟩, Or.inl q9, Or.inl q10⟩, fun p hp => ?_, by omega, fun j hjj => by omega⟩
  · rcases (show (p : Int) < n * n ∨ n * n ≤ (p : Int) by omega) with h5 | h5
    · rw [q6 p h5]
      have := q4.1 p h5
      exact hC _ (by omega)
    · rw [q7 p h5]
      exact hC p hp
  · rw [p3 p hp, s1 p hp, q6 p hp]
theorem jw_count (hj : jn h g s n) (w : Int) (hw : pg_inR w) : jw pm_P_count pm_T_count [.inr (.inr 0), .inl w] h (rm g s n) := by
  obtain ⟨hI, ⟨hB, hC, hG, hK, hJ⟩, e1, e2, e3⟩ := id hj
  have hn := hB.2.1
  have hnn := mt_nn hn.1 hn.2
  refine ⟨_, _, ct_count hI w hw, re_count hB hC hK hJ w hw, ?_⟩
  rintro r1 h1 r2 h2 ⟨p1, z, p2, p3, p4, p5, p6, p7, p8, p9, p10⟩ ⟨g', y, q2, q3, q4, q5, q6, q7, c0, c1, c2, c3, c4, c5, c6, c7, c8, c9, c10⟩
  have hjj := jn_c (jn_r hj q3 (by decide) q4 q5) p1
  have hzy : z = y := by
    by_cases hv : 0 ≤ w ∧ w ≤ 10
    · rcases (show w = 0 ∨ w = 1 ∨ w = 2 ∨ w = 3 ∨ w = 4 ∨ w = 5 ∨ w = 6 ∨ w = 7 ∨ w = 8 ∨ w = 9 ∨ w = 10 by omega) with h5 | h5 | h5 | h5 | h5 | h5 | h5 | h5 | h5 | h5 | h5
      · rw [p4 h5, c0 h5]
      · rw [p5 h5, c1 h5]
      · rw [p6 h5, c2 h5]
        refine pg_cn_iff (fun c hc => ?_)
        rw [hI.1.2.2.1 c hc, pg_cn_pos]
        constructor
        · rintro ⟨p, a1, a2⟩
          exact ⟨p, a1, by rw [← e1 p (by omega)]; exact a2⟩
        · rintro ⟨p, a1, a2⟩
          exact ⟨p, a1, by rw [e1 p (by omega)]; exact a2⟩
      · rw [p7 h5, c3 h5, e2]
      · obtain ⟨h', a1, a2, a3, -⟩ := p10 (by omega)
        have hL := (jn_D hj a2 (a1 7 (by decide))).2.1
        obtain ⟨a, c, b1, b2, b3⟩ := c4 h5
        rw [a3 h5, b3, gr_refA hn.1 hL b1, gr_refC hn.1 hL b2]
      · obtain ⟨h', a1, a2, -, a3, -⟩ := p10 (by omega)
        have hD := jn_D hj a2 (a1 7 (by decide))
        rw [a3 h5, c5 h5, gr_many hB.1 hn.1 hD]
      · obtain ⟨h', a1, a2, -, -, a3, -⟩ := p10 (by omega)
        have hD := jn_D hj a2 (a1 7 (by decide))
        rw [a3 h5, c6 h5, gr_c6 hB.1 hn hD]
      · obtain ⟨a1, a2, a3⟩ := p8 h5
        rw [a3, c7 h5, gr_most hB.1 hn (jn_D hj a1 p1.2.1) a2]
      · obtain ⟨h', a1, a2, -, -, -, a3, -⟩ := p10 (by omega)
        have hD := jn_D hj a2 (a1 7 (by decide))
        rw [a3 h5, c8 h5, gr_c8 hB.1 hn hD]
      · obtain ⟨h', a1, a2, -, -, -, -, a3⟩ := p10 (by omega)
        rw [c9 h5, jn_V hj a1 a2 (a3 h5)]
      · obtain ⟨a1, a2⟩ := p9 h5
        rw [a2, c10 h5]
        exact pg_cn_iff (fun j hj' => (gr_lo hB.1 hn (jn_D hj a1 p1.2.1) (q := j) (by omega)).2)
    · rw [p3 hv, q7 hv]
  rw [← hzy] at q6
  exact ⟨z, p2, q6, g', s, n, q2, hjj⟩
end
