/-! Signature: reach, followBy -/
theorem pg_fd {x y : Int} (hy : 0 < y) : x / y = if x < 0 ∧ Int.tdiv x y * y ≠ x then Int.tdiv x y - 1 else Int.tdiv x y := by
  have h1 := Int.tmod_add_mul_tdiv x y
  have h2 := pg_em (x := x) hy
  have h3 := Int.emod_add_mul_ediv x y
  have h4 := pg_tms x y
  have h5 := pg_tm (x := x) hy
  have c1 : y * Int.tdiv x y = Int.tdiv x y * y := Int.mul_comm _ _
  have c2 : y * (x / y) = x / y * y := Int.mul_comm _ _
  by_cases hc : Int.tmod x y < 0
  · rw [if_pos hc] at h2
    rw [if_pos ⟨by omega, by omega⟩]
    have h6 : y * (x / y) = y * (Int.tdiv x y - 1) := by rw [Int.mul_sub, Int.mul_one]; omega
    exact Int.eq_of_mul_eq_mul_left (by omega) h6
  · rw [if_neg hc] at h2
    rw [if_neg (by omega)]
    have h6 : y * (x / y) = y * Int.tdiv x y := by omega
    exact Int.eq_of_mul_eq_mul_left (by omega) h6
theorem pg_mulb {x y m k : Int} (hx : -m ≤ x ∧ x ≤ m) (hy : 0 ≤ y ∧ y ≤ k) : -(k * m) ≤ y * x ∧ y * x ≤ k * m := by
  have hm : 0 ≤ m := by omega
  have h1 : y * x ≤ y * m := Int.mul_le_mul_of_nonneg_left hx.2 hy.1
  have h2 : y * m ≤ k * m := Int.mul_le_mul_of_nonneg_right hy.2 hm
  have h3 : y * (-m) ≤ y * x := Int.mul_le_mul_of_nonneg_left hx.1 hy.1
  rw [Int.mul_neg] at h3
  omega
/-- a place, brought into the cell: its number -/
def sg_rd (h : pg_H) (p q : Int) : Int := (q - q / h 15 6 * h 15 6) * h 15 5 + (p - 6 * h 10 5 * (q / h 15 6)) % h 15 5
def sg_W (h : pg_H) : Prop := h 15 5 = 6 * h 10 4 ∧ h 15 6 = 6 * h 10 6
theorem sg_sub {q H : Int} (hH : 1 ≤ H) : 0 ≤ q - q / H * H ∧ q - q / H * H < H := by
  have h1 := Int.emod_add_mul_ediv q H
  rw [Int.mul_comm] at h1
  have h2 := mt_mod hH q
  omega
theorem sg_rd_bd {h : pg_H} {s : Int} (hR : sy_R h s) (hW : sg_W h) (p q : Int) : 0 ≤ sg_rd h p q ∧ sg_rd h p q < 5184 ∧ sg_rd h p q < h 15 5 * h 15 6 := by
  have ra := hR.1
  have rc := hR.2.2.1
  have h1 := sg_sub (q := q) (H := h 15 6) (by rw [hW.2]; omega)
  have h2 := mt_mod (n := h 15 5) (by rw [hW.1]; omega) (p - 6 * h 10 5 * (q / h 15 6))
  unfold sg_rd
  generalize q - q / h 15 6 * h 15 6 = y at *
  generalize (p - 6 * h 10 5 * (q / h 15 6)) % h 15 5 = x at *
  have hW1 : 1 ≤ h 15 5 ∧ h 15 5 ≤ 72 := by rw [hW.1]; omega
  have hW2 : 1 ≤ h 15 6 ∧ h 15 6 ≤ 72 := by rw [hW.2]; omega
  generalize h 15 5 = w at *
  generalize h 15 6 = v at *
  have e1 : 0 ≤ y * w := Int.mul_nonneg h1.1 (by omega)
  have e2 : y * w ≤ y * 72 := Int.mul_le_mul_of_nonneg_left hW1.2 h1.1
  have e3 : y * w ≤ (v - 1) * w := Int.mul_le_mul_of_nonneg_right (by omega) (by omega)
  rw [Int.sub_mul, Int.one_mul, Int.mul_comm v w] at e3
  omega
theorem cj_fd (h : pg_H) (x y : Int) (hx : -1000000 ≤ x ∧ x ≤ 1000000) (hy : 0 < y ∧ y < 1000000) : pg_Sem true pm_J_floorDiv [.inl x, .inl y] h (fun r h' => r = some (.inl (x / y)) ∧ h' = h) := by
  have hfd := pg_fd (x := x) hy.1
  have hxn := pg_xor_neg (x := x) (y := y) ⟨by omega, by omega⟩ ⟨by omega, by omega⟩
  have hxi := pg_xor_in x y
  obtain ⟨hxi1, hxi2⟩ := hxi
  have hb := pg_tdiv_bd (x := x) (c := y) (m := 1000000) (by omega) hx
  have h1 := Int.tmod_add_mul_tdiv x y
  have h5 := pg_tm (x := x) hy.1
  have c1 : y * Int.tdiv x y = Int.tdiv x y * y := Int.mul_comm _ _
  refine pg_Sem_of pm_J_floorDiv_f rfl ?_
  refine pg_br 7 (L := [y ≠ 0 ∧ pg_inR x ∧ pg_inR y]) (P := pg_inR (pg_xor x y)) (c := 0 ≤ (pg_xor x y)) (st1 := (21, [(0, .inl x), (1, .inl y), (2, .inl (Int.tdiv x y))], [], h)) (st2 := (10, [(0, .inl x), (1, .inl y), (2, .inl (Int.tdiv x y))], [], h)) rfl ⟨by omega, ⟨by omega, by omega⟩, ⟨by omega, by omega⟩⟩ ⟨by omega, by omega⟩ (fun c_7_1 => ?_) (fun c_7_1 => ?_)
  · refine pg_re 1 (L := []) (r := some (.inl (Int.tdiv x y))) (h0 := h) rfl trivial ?_
    refine ⟨?_, rfl⟩
    congr 2
    rw [hfd]
    split <;> omega
  · refine pg_br 4 (L := []) (P := pg_inR ((Int.tdiv x y) * y) ∧ pg_inR x) (c := ((Int.tdiv x y) * y) = x) (st1 := (21, [(0, .inl x), (1, .inl y), (2, .inl (Int.tdiv x y))], [], h)) (st2 := (17, [(0, .inl x), (1, .inl y), (2, .inl (Int.tdiv x y))], [], h)) rfl trivial ⟨⟨by omega, by omega⟩, ⟨by omega, by omega⟩⟩ (fun c_14_2 => ?_) (fun c_14_2 => ?_)
    · refine pg_re 1 (L := []) (r := some (.inl (Int.tdiv x y))) (h0 := h) rfl trivial ?_
      refine ⟨?_, rfl⟩
      congr 2
      rw [hfd]
      split <;> omega
    · refine pg_re 3 (L := []) (r := some (.inl ((Int.tdiv x y) - 1))) (h0 := h) rfl trivial ?_
      refine ⟨?_, rfl⟩
      congr 2
      rw [hfd]
      split <;> omega
theorem sg_reach {h : pg_H} {s n : Int} (hB : cm_B h s n) (hR : sy_R h s) (hW : sg_W h) {L : List Int} (hL : rc_L h L) (p q : Int) (hp : -1000 ≤ p ∧ p ≤ 1000) (hq : -1000 ≤ q ∧ q ≤ 1000) : pg_Sem true pm_G_reach [.inr (.inr 15), .inl p, .inl q] h (fun r h' => r = none ∧ pg_fr [1, 2, 3] h h' ∧ rc_L h' (bf_add L (sg_rd h p q))) := by
  obtain ⟨hs, ⟨hn1, hn2⟩, e1, e2, e3, e5⟩ := id hB
  have hr := mt_rd_or hs
  obtain ⟨ra, rb, rc, rl, rk⟩ := id hR
  have w1 : 1 ≤ h 15 5 ∧ h 15 5 ≤ 72 := by rw [hW.1]; omega
  have w2 : 1 ≤ h 15 6 ∧ h 15 6 ≤ 72 := by rw [hW.2]; omega
  have hbd0 := sg_rd_bd hR hW p q
  have hbd : 0 ≤ (q - q / h 15 6 * h 15 6) * h 15 5 + (p - 6 * h 10 5 * (q / h 15 6)) % h 15 5 ∧ (q - q / h 15 6 * h 15 6) * h 15 5 + (p - 6 * h 10 5 * (q / h 15 6)) % h 15 5 < 5184 := ⟨hbd0.1, hbd0.2.1⟩
  have hqd : -1000 ≤ q / h 15 6 ∧ q / h 15 6 ≤ 1000 := by
    have h1 := Int.emod_add_mul_ediv q (h 15 6)
    have h2 := mt_mod (n := h 15 6) w2.1 q
    rw [Int.mul_comm] at h1
    rcases Int.le_total 0 (q / h 15 6) with h3 | h3
    · have h4 : q / h 15 6 * 1 ≤ q / h 15 6 * h 15 6 := Int.mul_le_mul_of_nonneg_left w2.1 h3
      omega
    · have h4 : q / h 15 6 * h 15 6 ≤ q / h 15 6 * 1 := Int.mul_le_mul_of_nonpos_left h3 w2.1
      have h6 : q / h 15 6 ≥ q / h 15 6 * h 15 6 := by omega
      rcases Int.le_total (-1000) (q / h 15 6) with h7 | h7
      · omega
      · have h8 : q / h 15 6 * h 15 6 = q - q % h 15 6 := by omega
        have h9 : -1 - q / h 15 6 ≤ (-1 - q / h 15 6) * h 15 6 := by have := Int.mul_le_mul_of_nonneg_left w2.1 (show 0 ≤ -1 - q / h 15 6 by omega); omega
        rw [Int.sub_mul, Int.neg_mul, Int.one_mul] at h9
        omega
  have hmb := pg_mulb (x := q / h 15 6) (y := 6 * h 10 5) (m := 1000) (k := 72) hqd ⟨by omega, by omega⟩
  refine pg_Sem_of pm_G_reach_f rfl ?_
  refine pg_br 3 (L := []) (P := pg_inR (h 15 5) ∧ pg_inR 1) (c := (h 15 5) < 1) (st1 := (16, [(0, .inr (.inr 15)), (1, .inl p), (2, .inl q)], [], h)) (st2 := (8, [(0, .inr (.inr 15)), (1, .inl p), (2, .inl q)], [], h)) rfl trivial ⟨⟨by omega, by omega⟩, ⟨by decide, by decide⟩⟩ (fun c_5_1 => ?_) (fun c_5_1 => ?_)
  · exact (by exfalso; omega)
  · refine pg_br 3 (L := []) (P := pg_inR (h 15 6) ∧ pg_inR 1) (c := 1 ≤ (h 15 6)) (st1 := (17, [(0, .inr (.inr 15)), (1, .inl p), (2, .inl q)], [], h)) (st2 := (16, [(0, .inr (.inr 15)), (1, .inl p), (2, .inl q)], [], h)) rfl trivial ⟨⟨by omega, by omega⟩, ⟨by decide, by decide⟩⟩ (fun c_13_2 => ?_) (fun c_13_2 => ?_)
    · refine pg_ca 3 (L := []) (Mc := pm_J_floorDiv) (as := [.inl q, .inl (h 15 6)]) (h0 := h) (pc := 25) (lv := [(0, .inr (.inr 15)), (1, .inl p), (2, .inl q)]) (rest := []) rfl trivial (cj_fd h q (h 15 6) ⟨by omega, by omega⟩ ⟨by omega, by omega⟩) ?_
      intro r_1 h_1 e_1; rw [e_1.1, e_1.2]
      refine pg_ca 12 (L := []) (Mc := pm_J_floorMod) (as := [.inl (p - ((6 * (h 10 5)) * (q / (h 15 6)))), .inl (h 15 5)]) (h0 := h) (pc := 47) (lv := [(0, .inr (.inr 15)), (1, .inl p), (2, .inl q), (3, .inl (q / (h 15 6)))]) (rest := []) rfl trivial (cj_fm h (p - ((6 * (h 10 5)) * (q / (h 15 6)))) (h 15 5) ⟨by omega, by omega⟩ ⟨by omega, by omega⟩) ?_
      intro r_1 h_1 e_1; rw [e_1.1, e_1.2]
      refine pg_ca 14 (L := []) (Mc := pm_R_add) (as := [.inr (.inr 1), .inl (((q - ((q / (h 15 6)) * (h 15 6))) * (h 15 5)) + ((p - ((6 * (h 10 5)) * (q / (h 15 6)))) % (h 15 5)))]) (h0 := h) (pc := 72) (lv := [(0, .inr (.inr 15)), (1, .inl p), (2, .inl q), (3, .inl (q / (h 15 6))), (4, .inl ((p - ((6 * (h 10 5)) * (q / (h 15 6)))) % (h 15 5)))]) (rest := []) rfl trivial (rl_add hL (((q - ((q / (h 15 6)) * (h 15 6))) * (h 15 5)) + ((p - ((6 * (h 10 5)) * (q / (h 15 6)))) % (h 15 5))) hbd) ?_
      intro r_1 g2 e_1; obtain ⟨er_, eL_, ef_⟩ := e_1; rw [er_]
      refine pg_re 1 (L := []) (r := none) (h0 := g2) rfl trivial ?_
      exact ⟨rfl, ef_, eL_⟩
    · exact (by exfalso; omega)
/-- where a place goes by LINEAR k, and along its AXIS -/
noncomputable def sg_K (h : pg_H) (s k p q : Int) : List Int := @ite _ (h 11 k.toNat = -1) (Classical.propDecidable _) [] (sg_rd h (mt_x s k p q + 6 * h 11 k.toNat) (mt_y s k p q + 6 * h 12 k.toNat) :: @ite _ (mt_rd s ≤ k ∧ sy_F h s k p q) (Classical.propDecidable _) [sg_rd h (p + mt_ax s (2 * (k - mt_rd s))) (q + mt_ax s (2 * (k - mt_rd s) + 1))] [])
theorem mt_ax_bd (s j : Int) : -2 ≤ mt_ax s j ∧ mt_ax s j ≤ 2 := by
  have h1 : ∀ j, j < 8 → -2 ≤ pg_sq j ∧ pg_sq j ≤ 2 := by decide
  have h2 : ∀ j, j < 12 → -2 ≤ pg_tq j ∧ pg_tq j ≤ 2 := by decide
  unfold mt_ax
  split
  · rename_i hj
    split
    · rename_i hs
      have : mt_rd s = 4 := by rw [hs]; rfl
      exact h1 _ (by omega)
    · rename_i hs
      have : mt_rd s = 6 := by unfold mt_rd; rw [if_neg hs]
      exact h2 _ (by omega)
  · decide
set_option maxHeartbeats 4000000 in
theorem sg_by {h : pg_H} {s n : Int} (hB : cm_B h s n) (hR : sy_R h s) (hW : sg_W h) {L : List Int} (hL : rc_L h L) (k p q : Int) (hk : 0 ≤ k ∧ k < 2 * mt_rd s) (hp : 0 ≤ p ∧ p ≤ 100) (hq : 0 ≤ q ∧ q ≤ 100) : pg_Sem true pm_G_followBy [.inr (.inr 15), .inl k, .inl p, .inl q] h (fun r h' => r = none ∧ pg_fr [1, 2, 3] h h' ∧ rc_L h' (bf_ads L (sg_K h s k p q))) := by
  obtain ⟨hs, ⟨hn1, hn2⟩, e1, e2, e3, e5⟩ := id hB
  have hr := mt_rd_or hs
  obtain ⟨ra, rb, rc, rl, rk⟩ := id hR
  have w1 : 1 ≤ h 15 5 ∧ h 15 5 ≤ 72 := by rw [hW.1]; omega
  have w2 : 1 ≤ h 15 6 ∧ h 15 6 ≤ 72 := by rw [hW.2]; omega
  have r1 := rk k.toNat (by omega)
  have hX := mt_x_bd (s := s) (k := k) (x := p) (y := q) 100 (by omega) (by omega)
  have hY := mt_y_bd (s := s) (k := k) (x := p) (y := q) 100 (by omega) (by omega)
  have x1 := mt_ax_bd s (2 * (k - mt_rd s))
  have x2 := mt_ax_bd s (2 * (k - mt_rd s) + 1)
  refine pg_Sem_of pm_G_followBy_f rfl ?_
  refine pg_br 6 (L := [0 ≤ k ∧ k < (12 : Int)]) (P := pg_inR (h 11 k.toNat) ∧ pg_inR (-1)) (c := ¬ (h 11 k.toNat) = (-1)) (st1 := (14, [(0, .inr (.inr 15)), (1, .inl k), (2, .inl p), (3, .inl q)], [], h)) (st2 := (13, [(0, .inr (.inr 15)), (1, .inl k), (2, .inl p), (3, .inl q)], [], h)) rfl ⟨by omega, by omega⟩ ⟨⟨by omega, by omega⟩, ⟨by decide, by decide⟩⟩ (fun c_10_1 => ?_) (fun c_10_1 => ?_)
  · refine pg_ca 6 (L := []) (Mc := pm_M_linearX) (as := [.inr (.inr 4), .inl k, .inl p, .inl q]) (h0 := h) (pc := 25) (lv := [(0, .inr (.inr 15)), (1, .inl k), (2, .inl p), (3, .inl q)]) (rest := [.inr (.inr 15)]) rfl trivial (cm_linearX hB k p q ⟨by omega, by omega⟩) ?_
    intro r_1 h_1 e_1; rw [e_1.1, e_1.2]
    refine pg_ca 13 (L := [0 ≤ k ∧ k < (12 : Int)]) (Mc := pm_M_linearY) (as := [.inr (.inr 4), .inl k, .inl p, .inl q]) (h0 := h) (pc := 48) (lv := [(0, .inr (.inr 15)), (1, .inl k), (2, .inl p), (3, .inl q)]) (rest := [.inl ((mt_x s k p q) + (6 * (h 11 k.toNat))), .inr (.inr 15)]) rfl ⟨by omega, by omega⟩ (cm_linearY hB k p q ⟨by omega, by omega⟩) ?_
    intro r_1 h_1 e_1; rw [e_1.1, e_1.2]
    refine pg_ca 8 (L := [0 ≤ k ∧ k < (12 : Int)]) (Mc := pm_G_reach) (as := [.inr (.inr 15), .inl ((mt_x s k p q) + (6 * (h 11 k.toNat))), .inl ((mt_y s k p q) + (6 * (h 12 k.toNat)))]) (h0 := h) (pc := 64) (lv := [(0, .inr (.inr 15)), (1, .inl k), (2, .inl p), (3, .inl q)]) (rest := []) rfl ⟨by omega, by omega⟩ (sg_reach hB hR hW hL ((mt_x s k p q) + (6 * (h 11 k.toNat))) ((mt_y s k p q) + (6 * (h 12 k.toNat))) ⟨by omega, by omega⟩ ⟨by omega, by omega⟩) ?_
    intro r_1 g e_1; obtain ⟨er_, hf, eL_⟩ := e_1; rw [er_]; have hBg := cm_B_fr hB hf (by decide) (by decide); have hRg := sy_R_fr hf (by decide) (by decide) (by decide) hR; have g15 := hf 15 (by decide); have g10 := hf 10 (by decide); have g43 : g 4 3 = mt_rd s := by (rw [hf 4 (by decide)]; exact e3)
    have hWg : sg_W g := by unfold sg_W; rw [g15, g10]; exact hW
    have eF : sy_F g s k p q ↔ sy_F h s k p q := by unfold sy_F; rw [g10, hf 11 (by decide), hf 12 (by decide)]
    have hbo := pg_b_or (sy_F h s k p q)
    refine pg_br 4 (L := []) (P := pg_inR k ∧ pg_inR (g 4 3)) (c := k < (g 4 3)) (st1 := (112, [(0, .inr (.inr 15)), (1, .inl k), (2, .inl p), (3, .inl q)], [], g)) (st2 := (75, [(0, .inr (.inr 15)), (1, .inl k), (2, .inl p), (3, .inl q)], [], g)) rfl trivial ⟨⟨by omega, by omega⟩, ⟨by omega, by omega⟩⟩ (fun c_72_2 => ?_) (fun c_72_2 => ?_)
    · refine pg_re 0 (L := []) (r := none) (h0 := g) rfl trivial ?_
      refine ⟨rfl, hf, ?_⟩
      unfold sg_K
      rw [if_neg (by omega), if_neg (by first | omega | (intro hz; rcases hbo with hq | hq; (· omega); (· exact hq.1 hz.2)))]
      exact eL_
    · refine pg_ca 5 (L := []) (Mc := pm_S_fixes) (as := [.inr (.inr 10), .inl k, .inl p, .inl q]) (h0 := g) (pc := 85) (lv := [(0, .inr (.inr 15)), (1, .inl k), (2, .inl p), (3, .inl q)]) (rest := []) rfl trivial (cs_fixes hBg hRg k p q ⟨by omega, by omega⟩ ⟨by omega, by omega⟩ ⟨by omega, by omega⟩) ?_
      intro r_1 h_1 e_1; rw [pg_b_iff eF] at e_1; rw [e_1.1, e_1.2]
      refine pg_br 0 (L := []) (P := pg_inR (pg_b (sy_F h s k p q))) (c := (pg_b (sy_F h s k p q)) = 0) (st1 := (112, [(0, .inr (.inr 15)), (1, .inl k), (2, .inl p), (3, .inl q)], [], g)) (st2 := (88, [(0, .inr (.inr 15)), (1, .inl k), (2, .inl p), (3, .inl q)], [], g)) rfl trivial ⟨by omega, by omega⟩ (fun c_85_3 => ?_) (fun c_85_3 => ?_)
      · refine pg_re 0 (L := []) (r := none) (h0 := g) rfl trivial ?_
        refine ⟨rfl, hf, ?_⟩
        unfold sg_K
        rw [if_neg (by omega), if_neg (by first | omega | (intro hz; rcases hbo with hq | hq; (· omega); (· exact hq.1 hz.2)))]
        exact eL_
      · refine pg_ca 5 (L := []) (Mc := pm_M_axisX) (as := [.inr (.inr 4), .inl k]) (h0 := g) (pc := 98) (lv := [(0, .inr (.inr 15)), (1, .inl k), (2, .inl p), (3, .inl q)]) (rest := [.inl p, .inr (.inr 15)]) rfl trivial (cm_axisX hBg k ⟨by omega, by omega⟩) ?_
        intro r_1 h_1 e_1; rw [e_1.1, e_1.2]
        refine pg_ca 5 (L := []) (Mc := pm_M_axisY) (as := [.inr (.inr 4), .inl k]) (h0 := g) (pc := 108) (lv := [(0, .inr (.inr 15)), (1, .inl k), (2, .inl p), (3, .inl q)]) (rest := [.inl q, .inl (p + (mt_ax s (2 * (k - mt_rd s)))), .inr (.inr 15)]) rfl trivial (cm_axisY hBg k ⟨by omega, by omega⟩) ?_
        intro r_1 h_1 e_1; rw [e_1.1, e_1.2]
        refine pg_ca 1 (L := []) (Mc := pm_G_reach) (as := [.inr (.inr 15), .inl (p + (mt_ax s (2 * (k - mt_rd s)))), .inl (q + (mt_ax s (2 * (k - mt_rd s) + 1)))]) (h0 := g) (pc := 112) (lv := [(0, .inr (.inr 15)), (1, .inl k), (2, .inl p), (3, .inl q)]) (rest := []) rfl trivial (sg_reach hBg hRg hWg eL_ (p + (mt_ax s (2 * (k - mt_rd s)))) (q + (mt_ax s (2 * (k - mt_rd s) + 1))) ⟨by omega, by omega⟩ ⟨by omega, by omega⟩) ?_
        intro r_1 g2 e_1; obtain ⟨er_, hf2, eL2_⟩ := e_1; rw [er_]
        have erd : ∀ x y, sg_rd g x y = sg_rd h x y := fun x y => by unfold sg_rd; rw [g15, g10]
        rw [erd] at eL2_
        refine pg_re 0 (L := []) (r := none) (h0 := g2) rfl trivial ?_
        refine ⟨rfl, pg_fr_tr hf hf2 (by decide), ?_⟩
        unfold sg_K
        rw [if_neg (by omega), if_pos ⟨by omega, by rcases hbo with hq | hq; (· exact hq.1); (· omega)⟩]
        exact eL2_
  · refine pg_re 0 (L := []) (r := none) (h0 := h) rfl trivial ?_
    refine ⟨rfl, pg_fr_rf _ _, ?_⟩
    unfold sg_K
    rw [if_pos (by omega)]
    exact hL
