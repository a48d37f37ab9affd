/-! the reference: moves; begin, paint, paints, generate -/
theorem mt_lp_iff : ∀ s : Fin 2, ∀ k : Fin 12, ∀ j : Fin 12, ∀ i : Fin 12, (k.val : Int) < 2 * mt_rd (s.val : Int) → (j.val : Int) < 2 * mt_rd (s.val : Int) → (i.val : Int) < 2 * mt_rd (s.val : Int) → ((mt_x (s.val : Int) (i.val : Int) 1 0 = mt_x (s.val : Int) (k.val : Int) (mt_x (s.val : Int) (j.val : Int) 1 0) (mt_y (s.val : Int) (j.val : Int) 1 0) ∧ mt_y (s.val : Int) (i.val : Int) 1 0 = mt_y (s.val : Int) (k.val : Int) (mt_x (s.val : Int) (j.val : Int) 1 0) (mt_y (s.val : Int) (j.val : Int) 1 0) ∧ mt_x (s.val : Int) (i.val : Int) 0 1 = mt_x (s.val : Int) (k.val : Int) (mt_x (s.val : Int) (j.val : Int) 0 1) (mt_y (s.val : Int) (j.val : Int) 0 1) ∧ mt_y (s.val : Int) (i.val : Int) 0 1 = mt_y (s.val : Int) (k.val : Int) (mt_x (s.val : Int) (j.val : Int) 0 1) (mt_y (s.val : Int) (j.val : Int) 0 1)) ↔ (i.val : Int) = mt_lp (s.val : Int) (k.val : Int) (j.val : Int)) := by decide +kernel
theorem mt_lp_i {s k j i : Int} (hs : s = 0 ∨ s = 1) (hk : 0 ≤ k ∧ k < 2 * mt_rd s) (hj : 0 ≤ j ∧ j < 2 * mt_rd s) (hi : 0 ≤ i ∧ i < 2 * mt_rd s) : (mt_x s i 1 0 = mt_x s k (mt_x s j 1 0) (mt_y s j 1 0) ∧ mt_y s i 1 0 = mt_y s k (mt_x s j 1 0) (mt_y s j 1 0) ∧ mt_x s i 0 1 = mt_x s k (mt_x s j 0 1) (mt_y s j 0 1) ∧ mt_y s i 0 1 = mt_y s k (mt_x s j 0 1) (mt_y s j 0 1)) ↔ i = mt_lp s k j := by
  have hr := mt_rd_or hs
  have h := mt_lp_iff ⟨s.toNat, by omega⟩ ⟨k.toNat, by omega⟩ ⟨j.toNat, by omega⟩ ⟨i.toNat, by omega⟩
  simp only at h
  rw [show ((s.toNat : Nat) : Int) = s by omega, Int.toNat_of_nonneg hk.1, Int.toNat_of_nonneg hj.1, Int.toNat_of_nonneg hi.1] at h
  exact h hk.2 hj.2 hi.2
theorem mt_li_iff : ∀ s : Fin 2, ∀ k : Fin 12, ∀ j : Fin 12, (k.val : Int) < 2 * mt_rd (s.val : Int) → (j.val : Int) < 2 * mt_rd (s.val : Int) → (mt_lp (s.val : Int) (k.val : Int) (j.val : Int) = 0 ↔ (j.val : Int) = mt_li (s.val : Int) (k.val : Int)) := by decide +kernel
theorem mt_li_i {s k j : Int} (hs : s = 0 ∨ s = 1) (hk : 0 ≤ k ∧ k < 2 * mt_rd s) (hj : 0 ≤ j ∧ j < 2 * mt_rd s) : mt_lp s k j = 0 ↔ j = mt_li s k := by
  have hr := mt_rd_or hs
  have h := mt_li_iff ⟨s.toNat, by omega⟩ ⟨k.toNat, by omega⟩ ⟨j.toNat, by omega⟩
  simp only at h
  rw [show ((s.toNat : Nat) : Int) = s by omega, Int.toNat_of_nonneg hk.1, Int.toNat_of_nonneg hj.1] at h
  exact h hk.2 hj.2
theorem mt_n12 {n : Int} (hn : 1 ≤ n ∧ n ≤ 12) : n = 1 ∨ n = 2 ∨ n = 3 ∨ n = 4 ∨ n = 5 ∨ n = 6 ∨ n = 7 ∨ n = 8 ∨ n = 9 ∨ n = 10 ∨ n = 11 ∨ n = 12 := by omega
theorem mt_cd_k {n k u v : Int} (hn : 1 ≤ n ∧ n ≤ 12) : mt_cd n k u v / (n * n) = k ∧ mt_cd n k u v / n % n = u % n ∧ mt_cd n k u v % n = v % n := by
  unfold mt_cd
  rcases mt_n12 hn with rfl | rfl | rfl | rfl | rfl | rfl | rfl | rfl | rfl | rfl | rfl | rfl <;> omega
set_option maxHeartbeats 4000000 in
theorem re_goes {g : pg_H} {s n : Int} (hB : rm_B g s n) (k : Int) (hk : pg_inR k) (u : Int) (hu : pg_inR u) (v : Int) (hv : pg_inR v) (x : Int) (hx : pg_inR x) (y : Int) (hy : pg_inR y) (w : Int) (hw : pg_inR w) : pg_Sem false pm_T_goes [.inr (.inr 0), .inl k, .inl u, .inl v, .inl x, .inl y, .inl w] (rm g s n) (fun r h' => r = some (.inl (if (0 ≤ k ∧ k < 2 * mt_rd s) ∧ 0 ≤ w ∧ w ≤ 1 then (if w = 0 then mt_tg s n k (u % n) (v % n) (x % n) (y % n) % n else mt_tg s n k (u % n) (v % n) (x % n) (y % n) / n) else -2)) ∧ ∃ g', h' = rm g' s n ∧ rf [] [15, 16] g g') := by
  obtain ⟨hs, hn, hT⟩ := id hB
  obtain ⟨hn1, hn2⟩ := id hn
  have hr := mt_rd_or hs
  obtain ⟨k1, k2⟩ := hk
  obtain ⟨u1, u2⟩ := hu
  obtain ⟨v1, v2⟩ := hv
  obtain ⟨x1, x2⟩ := hx
  obtain ⟨y1, y2⟩ := hy
  obtain ⟨w1, w2⟩ := hw
  have mu := mt_mod hn1 u
  have mv := mt_mod hn1 v
  have mx := mt_mod hn1 x
  have my := mt_mod hn1 y
  have htg := mt_tg_bd (s := s) (k := k) (u := u % n) (v := v % n) (x := x % n) (y := y % n) hn1 hn2
  have et := pg_tmod_nn (y := n) htg.1
  have ed := pg_tdiv_nn (y := n) htg.1
  refine pg_Sem_of pm_T_goes_f rfl ?_
  refine pg_ca 2 (L := []) (Mc := pm_T_isK) (as := [.inr (.inr 0), .inl k]) (h0 := rm g s n) (pc := 5) (lv := [(0, .inr (.inr 0)), (1, .inl k), (2, .inl u), (3, .inl v), (4, .inl x), (5, .inl y), (6, .inl w)]) (rest := []) rfl trivial (re_isK (g := g) (n := n) hs k ⟨by omega, by omega⟩) ?_
  intro r_1 h_1 e_1; rw [e_1.1, e_1.2]
  have hik_2 : ((if 0 ≤ k ∧ k < 2 * mt_rd s then (1 : Int) else 0) = 1 ∧ (0 ≤ k ∧ k < 2 * mt_rd s)) ∨ ((if 0 ≤ k ∧ k < 2 * mt_rd s then (1 : Int) else 0) = 0 ∧ ¬ (0 ≤ k ∧ k < 2 * mt_rd s)) := by split <;> simp_all
  refine pg_br 0 (L := []) (P := pg_inR (if 0 ≤ k ∧ k < 2 * mt_rd s then 1 else 0)) (c := (if 0 ≤ k ∧ k < 2 * mt_rd s then 1 else 0) = 0) (st1 := (19, [(0, .inr (.inr 0)), (1, .inl k), (2, .inl u), (3, .inl v), (4, .inl x), (5, .inl y), (6, .inl w)], [], rm g s n)) (st2 := (8, [(0, .inr (.inr 0)), (1, .inl k), (2, .inl u), (3, .inl v), (4, .inl x), (5, .inl y), (6, .inl w)], [], rm g s n)) rfl trivial ⟨by omega, by omega⟩ (fun c_5_1 => ?_) (fun c_5_1 => ?_)
  · refine pg_re 1 (L := []) (r := some (.inl (-2))) (h0 := rm g s n) rfl trivial ?_
    refine ⟨?_, _, rfl, (rf_rf _ _ _)⟩
    first | (rw [if_neg (show ¬ ((0 ≤ k ∧ k < 2 * mt_rd s) ∧ 0 ≤ w ∧ w ≤ 1) by omega)]; done) | (rw [if_pos (show (0 ≤ k ∧ k < 2 * mt_rd s) ∧ 0 ≤ w ∧ w ≤ 1 by omega), if_pos (show w = 0 by omega), et]; done) | (rw [if_pos (show (0 ≤ k ∧ k < 2 * mt_rd s) ∧ 0 ≤ w ∧ w ≤ 1 by omega), if_neg (show ¬ w = 0 by omega), ed]; done)
  · refine pg_ca 4 (L := [pg_inR w]) (Mc := pm_T_isIn) (as := [.inr (.inl w), .inr (.inl 0), .inr (.inl 1)]) (h0 := rm g s n) (pc := 16) (lv := [(0, .inr (.inr 0)), (1, .inl k), (2, .inl u), (3, .inl v), (4, .inl x), (5, .inl y), (6, .inl w)]) (rest := []) rfl ⟨by omega, by omega⟩ (re_isIn (rm g s n) w 0 1 ⟨by omega, by omega⟩ ⟨by omega, by omega⟩ ⟨by omega, by omega⟩) ?_
    intro r_1 h_1 e_1; rw [e_1.1, e_1.2]
    have hin_13 : ((if 0 ≤ w ∧ w ≤ 1 then (1 : Int) else 0) = 1 ∧ (0 ≤ w ∧ w ≤ 1)) ∨ ((if 0 ≤ w ∧ w ≤ 1 then (1 : Int) else 0) = 0 ∧ ¬ (0 ≤ w ∧ w ≤ 1)) := by split <;> simp_all
    refine pg_br 0 (L := []) (P := pg_inR (if 0 ≤ w ∧ w ≤ 1 then 1 else 0)) (c := ¬ (if 0 ≤ w ∧ w ≤ 1 then 1 else 0) = 0) (st1 := (22, [(0, .inr (.inr 0)), (1, .inl k), (2, .inl u), (3, .inl v), (4, .inl x), (5, .inl y), (6, .inl w)], [], rm g s n)) (st2 := (19, [(0, .inr (.inr 0)), (1, .inl k), (2, .inl u), (3, .inl v), (4, .inl x), (5, .inl y), (6, .inl w)], [], rm g s n)) rfl trivial ⟨by omega, by omega⟩ (fun c_16_2 => ?_) (fun c_16_2 => ?_)
    · refine pg_ca 6 (L := [pg_inR u]) (Mc := pm_T_mod) (as := [.inr (.inl u), .inl n]) (h0 := rm g s n) (pc := 33) (lv := [(0, .inr (.inr 0)), (1, .inl k), (2, .inl u), (3, .inl v), (4, .inl x), (5, .inl y), (6, .inl w)]) (rest := [.inl k, .inr (.inr 0)]) rfl ⟨by omega, by omega⟩ (re_mod (rm g s n) u n ⟨by omega, by omega⟩ ⟨by omega, by omega⟩) ?_
      intro r_1 h_1 e_1; rw [e_1.1, e_1.2]
      have hm_30 := mt_mod (n := n) (by omega) u
      refine pg_ca 4 (L := [pg_inR v]) (Mc := pm_T_mod) (as := [.inr (.inl v), .inl n]) (h0 := rm g s n) (pc := 42) (lv := [(0, .inr (.inr 0)), (1, .inl k), (2, .inl u), (3, .inl v), (4, .inl x), (5, .inl y), (6, .inl w)]) (rest := [.inl (u % n), .inl k, .inr (.inr 0)]) rfl ⟨by omega, by omega⟩ (re_mod (rm g s n) v n ⟨by omega, by omega⟩ ⟨by omega, by omega⟩) ?_
      intro r_1 h_1 e_1; rw [e_1.1, e_1.2]
      have hm_39 := mt_mod (n := n) (by omega) v
      refine pg_ca 4 (L := [pg_inR x]) (Mc := pm_T_mod) (as := [.inr (.inl x), .inl n]) (h0 := rm g s n) (pc := 52) (lv := [(0, .inr (.inr 0)), (1, .inl k), (2, .inl u), (3, .inl v), (4, .inl x), (5, .inl y), (6, .inl w)]) (rest := [.inl (v % n), .inl (u % n), .inl k, .inr (.inr 0)]) rfl ⟨by omega, by omega⟩ (re_mod (rm g s n) x n ⟨by omega, by omega⟩ ⟨by omega, by omega⟩) ?_
      intro r_1 h_1 e_1; rw [e_1.1, e_1.2]
      have hm_49 := mt_mod (n := n) (by omega) x
      refine pg_ca 4 (L := [pg_inR y]) (Mc := pm_T_mod) (as := [.inr (.inl y), .inl n]) (h0 := rm g s n) (pc := 62) (lv := [(0, .inr (.inr 0)), (1, .inl k), (2, .inl u), (3, .inl v), (4, .inl x), (5, .inl y), (6, .inl w)]) (rest := [.inl (x % n), .inl (v % n), .inl (u % n), .inl k, .inr (.inr 0)]) rfl ⟨by omega, by omega⟩ (re_mod (rm g s n) y n ⟨by omega, by omega⟩ ⟨by omega, by omega⟩) ?_
      intro r_1 h_1 e_1; rw [e_1.1, e_1.2]
      have hm_59 := mt_mod (n := n) (by omega) y
      refine pg_ca 0 (L := []) (Mc := pm_T_pointBy) (as := [.inr (.inr 0), .inl k, .inl (u % n), .inl (v % n), .inl (x % n), .inl (y % n)]) (h0 := rm g s n) (pc := 65) (lv := [(0, .inr (.inr 0)), (1, .inl k), (2, .inl u), (3, .inl v), (4, .inl x), (5, .inl y), (6, .inl w)]) (rest := []) rfl trivial (re_pointBy (g := g) hB k (u % n) (v % n) (x % n) (y % n) ⟨by omega, by omega⟩ ⟨by omega, by omega⟩ ⟨by omega, by omega⟩ ⟨by omega, by omega⟩ ⟨by omega, by omega⟩) ?_
      intro r_1 h_1 e_1; rw [e_1.1, e_1.2]
      refine pg_br 2 (L := []) (P := pg_inR w) (c := ¬ w = 0) (st1 := (82, [(0, .inr (.inr 0)), (1, .inl k), (2, .inl u), (3, .inl v), (4, .inl x), (5, .inl y), (6, .inl w), (7, .inl (mt_tg s n k (u % n) (v % n) (x % n) (y % n)))], [], rm (pg_up (pg_up g 0 15 (mt_x s k (x % n) (y % n))) 0 16 (mt_y s k (x % n) (y % n))) s n)) (st2 := (72, [(0, .inr (.inr 0)), (1, .inl k), (2, .inl u), (3, .inl v), (4, .inl x), (5, .inl y), (6, .inl w), (7, .inl (mt_tg s n k (u % n) (v % n) (x % n) (y % n)))], [], rm (pg_up (pg_up g 0 15 (mt_x s k (x % n) (y % n))) 0 16 (mt_y s k (x % n) (y % n))) s n)) rfl trivial ⟨by omega, by omega⟩ (fun c_69_3 => ?_) (fun c_69_3 => ?_)
      · refine pg_re 4 (L := [n ≠ 0 ∧ pg_inR (mt_tg s n k (u % n) (v % n) (x % n) (y % n)) ∧ pg_inR n]) (r := some (.inl (Int.tdiv (mt_tg s n k (u % n) (v % n) (x % n) (y % n)) n))) (h0 := rm (pg_up (pg_up g 0 15 (mt_x s k (x % n) (y % n))) 0 16 (mt_y s k (x % n) (y % n))) s n) rfl ⟨by omega, ⟨by omega, by omega⟩, ⟨by omega, by omega⟩⟩ ?_
        refine ⟨?_, _, rfl, (rf_0 (rf_0 (rf_rf _ _ _) (by decide) _) (by decide) _)⟩
        first | (rw [if_neg (show ¬ ((0 ≤ k ∧ k < 2 * mt_rd s) ∧ 0 ≤ w ∧ w ≤ 1) by omega)]; done) | (rw [if_pos (show (0 ≤ k ∧ k < 2 * mt_rd s) ∧ 0 ≤ w ∧ w ≤ 1 by omega), if_pos (show w = 0 by omega), et]; done) | (rw [if_pos (show (0 ≤ k ∧ k < 2 * mt_rd s) ∧ 0 ≤ w ∧ w ≤ 1 by omega), if_neg (show ¬ w = 0 by omega), ed]; done)
      · refine pg_re 5 (L := [n ≠ 0 ∧ pg_inR (mt_tg s n k (u % n) (v % n) (x % n) (y % n)) ∧ pg_inR n]) (r := some (.inl (Int.tmod (mt_tg s n k (u % n) (v % n) (x % n) (y % n)) n))) (h0 := rm (pg_up (pg_up g 0 15 (mt_x s k (x % n) (y % n))) 0 16 (mt_y s k (x % n) (y % n))) s n) rfl ⟨by omega, ⟨by omega, by omega⟩, ⟨by omega, by omega⟩⟩ ?_
        refine ⟨?_, _, rfl, (rf_0 (rf_0 (rf_rf _ _ _) (by decide) _) (by decide) _)⟩
        first | (rw [if_neg (show ¬ ((0 ≤ k ∧ k < 2 * mt_rd s) ∧ 0 ≤ w ∧ w ≤ 1) by omega)]; done) | (rw [if_pos (show (0 ≤ k ∧ k < 2 * mt_rd s) ∧ 0 ≤ w ∧ w ≤ 1 by omega), if_pos (show w = 0 by omega), et]; done) | (rw [if_pos (show (0 ≤ k ∧ k < 2 * mt_rd s) ∧ 0 ≤ w ∧ w ≤ 1 by omega), if_neg (show ¬ w = 0 by omega), ed]; done)
    · refine pg_re 1 (L := []) (r := some (.inl (-2))) (h0 := rm g s n) rfl trivial ?_
      refine ⟨?_, _, rfl, (rf_rf _ _ _)⟩
      first | (rw [if_neg (show ¬ ((0 ≤ k ∧ k < 2 * mt_rd s) ∧ 0 ≤ w ∧ w ≤ 1) by omega)]; done) | (rw [if_pos (show (0 ≤ k ∧ k < 2 * mt_rd s) ∧ 0 ≤ w ∧ w ≤ 1 by omega), if_pos (show w = 0 by omega), et]; done) | (rw [if_pos (show (0 ≤ k ∧ k < 2 * mt_rd s) ∧ 0 ≤ w ∧ w ≤ 1 by omega), if_neg (show ¬ w = 0 by omega), ed]; done)
set_option maxHeartbeats 4000000 in
theorem re_lin_l {g0 : pg_H} {s n : Int} (hB0 : rm_B g0 s n) {k j : Int} (hk : 0 ≤ k ∧ k < 2 * mt_rd s) (hj : 0 ≤ j ∧ j < 2 * mt_rd s) : ∀ (d : Nat) (g : pg_H) (f a : Int) (hd : a + (d : Int) = 2 * mt_rd s) (ha : 0 ≤ a) (hf : rf [] [15, 16] g0 g) (hF : f = if mt_lp s k j < a then mt_lp s k j else -1), pg_Good false pm_T_linear (fun r h' => r = some (.inl (mt_lp s k j)) ∧ ∃ g', h' = rm g' s n ∧ rf [] [15, 16] g0 g') (69, [(0, .inr (.inr 0)), (1, .inl k), (2, .inl j), (3, .inr (.inl (mt_x s k (mt_x s j 1 0) (mt_y s j 1 0)))), (5, .inr (.inl (mt_y s k (mt_x s j 1 0) (mt_y s j 1 0)))), (7, .inr (.inl (mt_x s k (mt_x s j 0 1) (mt_y s j 0 1)))), (9, .inr (.inl (mt_y s k (mt_x s j 0 1) (mt_y s j 0 1)))), (11, .inl f), (12, .inl a)], [], rm g s n) := by
  intro d
  induction d with
  | zero =>
    intro g f a hd ha hf hF
    have hB := rm_B_fr hB0 hf (by decide)
    obtain ⟨hs, hn, -⟩ := id hB
    have hr := mt_rd_or hs
    have hlb := mt_lp_bd hs hk hj
    refine pg_ca 3 (L := []) (Mc := pm_T_round) (as := [.inr (.inr 0)]) (h0 := rm g s n) (pc := 76) (lv := [(0, .inr (.inr 0)), (1, .inl k), (2, .inl j), (3, .inr (.inl (mt_x s k (mt_x s j 1 0) (mt_y s j 1 0)))), (5, .inr (.inl (mt_y s k (mt_x s j 1 0) (mt_y s j 1 0)))), (7, .inr (.inl (mt_x s k (mt_x s j 0 1) (mt_y s j 0 1)))), (9, .inr (.inl (mt_y s k (mt_x s j 0 1) (mt_y s j 0 1)))), (11, .inl f), (12, .inl a)]) (rest := [.inl 2, .inl a]) rfl trivial (re_round (g := g) (n := n) hs) ?_
    intro r_1 h_1 e_1; rw [e_1.1, e_1.2]
    refine pg_br 1 (L := []) (P := pg_inR a ∧ pg_inR (2 * (mt_rd s))) (c := (2 * (mt_rd s)) ≤ a) (st1 := (162, [(0, .inr (.inr 0)), (1, .inl k), (2, .inl j), (3, .inr (.inl (mt_x s k (mt_x s j 1 0) (mt_y s j 1 0)))), (5, .inr (.inl (mt_y s k (mt_x s j 1 0) (mt_y s j 1 0)))), (7, .inr (.inl (mt_x s k (mt_x s j 0 1) (mt_y s j 0 1)))), (9, .inr (.inl (mt_y s k (mt_x s j 0 1) (mt_y s j 0 1)))), (11, .inl f), (12, .inl a)], [], rm g s n)) (st2 := (80, [(0, .inr (.inr 0)), (1, .inl k), (2, .inl j), (3, .inr (.inl (mt_x s k (mt_x s j 1 0) (mt_y s j 1 0)))), (5, .inr (.inl (mt_y s k (mt_x s j 1 0) (mt_y s j 1 0)))), (7, .inr (.inl (mt_x s k (mt_x s j 0 1) (mt_y s j 0 1)))), (9, .inr (.inl (mt_y s k (mt_x s j 0 1) (mt_y s j 0 1)))), (11, .inl f), (12, .inl a)], [], rm g s n)) rfl trivial ⟨⟨by omega, by omega⟩, ⟨by omega, by omega⟩⟩ (fun c_77_1 => ?_) (fun c_77_1 => ?_)
    · refine pg_re 1 (L := []) (r := some (.inl f)) (h0 := rm g s n) rfl trivial ?_
      refine ⟨?_, g, rfl, hf⟩
      rw [hF, if_pos (by omega)]
    · exact (by exfalso; omega)
  | succ d ih =>
    intro g f a hd ha hf hF
    have hB := rm_B_fr hB0 hf (by decide)
    obtain ⟨hs, hn, -⟩ := id hB
    have hr := mt_rd_or hs
    have b_x1 := mt_x_bd (s := s) (k := j) (x := 1) (y := 0) 1 (by omega) (by omega)
    have b_y1 := mt_y_bd (s := s) (k := j) (x := 1) (y := 0) 1 (by omega) (by omega)
    have b_x2 := mt_x_bd (s := s) (k := j) (x := 0) (y := 1) 1 (by omega) (by omega)
    have b_y2 := mt_y_bd (s := s) (k := j) (x := 0) (y := 1) 1 (by omega) (by omega)
    have b_x3 := mt_x_bd (s := s) (k := k) (x := mt_x s j 1 0) (y := mt_y s j 1 0) 2 (by omega) (by omega)
    have b_y3 := mt_y_bd (s := s) (k := k) (x := mt_x s j 1 0) (y := mt_y s j 1 0) 2 (by omega) (by omega)
    have b_x4 := mt_x_bd (s := s) (k := k) (x := mt_x s j 0 1) (y := mt_y s j 0 1) 2 (by omega) (by omega)
    have b_y4 := mt_y_bd (s := s) (k := k) (x := mt_x s j 0 1) (y := mt_y s j 0 1) 2 (by omega) (by omega)
    have hlb := mt_lp_bd hs hk hj
    have hia := mt_lp_i (i := a) hs hk hj ⟨by omega, by omega⟩
    have b_x5 := mt_x_bd (s := s) (k := a) (x := 1) (y := 0) 1 (by omega) (by omega)
    have b_y5 := mt_y_bd (s := s) (k := a) (x := 1) (y := 0) 1 (by omega) (by omega)
    have b_x6 := mt_x_bd (s := s) (k := a) (x := 0) (y := 1) 1 (by omega) (by omega)
    have b_y6 := mt_y_bd (s := s) (k := a) (x := 0) (y := 1) 1 (by omega) (by omega)
    have c1 := pg_cmp_or (mt_x s a 1 0) (mt_x s k (mt_x s j 1 0) (mt_y s j 1 0))
    have c2 := pg_cmp_or (mt_y s a 1 0) (mt_y s k (mt_x s j 1 0) (mt_y s j 1 0))
    have c3 := pg_cmp_or (mt_x s a 0 1) (mt_x s k (mt_x s j 0 1) (mt_y s j 0 1))
    have c4 := pg_cmp_or (mt_y s a 0 1) (mt_y s k (mt_x s j 0 1) (mt_y s j 0 1))
    refine pg_ca 3 (L := []) (Mc := pm_T_round) (as := [.inr (.inr 0)]) (h0 := rm g s n) (pc := 76) (lv := [(0, .inr (.inr 0)), (1, .inl k), (2, .inl j), (3, .inr (.inl (mt_x s k (mt_x s j 1 0) (mt_y s j 1 0)))), (5, .inr (.inl (mt_y s k (mt_x s j 1 0) (mt_y s j 1 0)))), (7, .inr (.inl (mt_x s k (mt_x s j 0 1) (mt_y s j 0 1)))), (9, .inr (.inl (mt_y s k (mt_x s j 0 1) (mt_y s j 0 1)))), (11, .inl f), (12, .inl a)]) (rest := [.inl 2, .inl a]) rfl trivial (re_round (g := g) (n := n) hs) ?_
    intro r_1 h_1 e_1; rw [e_1.1, e_1.2]
    refine pg_br 1 (L := []) (P := pg_inR a ∧ pg_inR (2 * (mt_rd s))) (c := (2 * (mt_rd s)) ≤ a) (st1 := (162, [(0, .inr (.inr 0)), (1, .inl k), (2, .inl j), (3, .inr (.inl (mt_x s k (mt_x s j 1 0) (mt_y s j 1 0)))), (5, .inr (.inl (mt_y s k (mt_x s j 1 0) (mt_y s j 1 0)))), (7, .inr (.inl (mt_x s k (mt_x s j 0 1) (mt_y s j 0 1)))), (9, .inr (.inl (mt_y s k (mt_x s j 0 1) (mt_y s j 0 1)))), (11, .inl f), (12, .inl a)], [], rm g s n)) (st2 := (80, [(0, .inr (.inr 0)), (1, .inl k), (2, .inl j), (3, .inr (.inl (mt_x s k (mt_x s j 1 0) (mt_y s j 1 0)))), (5, .inr (.inl (mt_y s k (mt_x s j 1 0) (mt_y s j 1 0)))), (7, .inr (.inl (mt_x s k (mt_x s j 0 1) (mt_y s j 0 1)))), (9, .inr (.inl (mt_y s k (mt_x s j 0 1) (mt_y s j 0 1)))), (11, .inl f), (12, .inl a)], [], rm g s n)) rfl trivial ⟨⟨by omega, by omega⟩, ⟨by omega, by omega⟩⟩ (fun c_77_2 => ?_) (fun c_77_2 => ?_)
    · exact (by exfalso; omega)
    · refine pg_ca 4 (L := []) (Mc := pm_T_map) (as := [.inr (.inr 0), .inl a, .inr (.inl 1), .inr (.inl 0)]) (h0 := rm g s n) (pc := 88) (lv := [(0, .inr (.inr 0)), (1, .inl k), (2, .inl j), (3, .inr (.inl (mt_x s k (mt_x s j 1 0) (mt_y s j 1 0)))), (5, .inr (.inl (mt_y s k (mt_x s j 1 0) (mt_y s j 1 0)))), (7, .inr (.inl (mt_x s k (mt_x s j 0 1) (mt_y s j 0 1)))), (9, .inr (.inl (mt_y s k (mt_x s j 0 1) (mt_y s j 0 1)))), (11, .inl f), (12, .inl a)]) (rest := []) rfl trivial (re_map (g := g) hB a 1 0 ⟨by omega, by omega⟩) ?_
      intro r_1 h_1 e_1; rw [e_1.1, e_1.2]
      refine pg_br 4 (L := [pg_inL (mt_x s a 1 0) ∧ pg_inL (mt_x s k (mt_x s j 1 0) (mt_y s j 1 0))]) (P := pg_inR (pg_cmp (mt_x s a 1 0) (mt_x s k (mt_x s j 1 0) (mt_y s j 1 0)))) (c := ¬ (pg_cmp (mt_x s a 1 0) (mt_x s k (mt_x s j 1 0) (mt_y s j 1 0))) = 0) (st1 := (111, [(0, .inr (.inr 0)), (1, .inl k), (2, .inl j), (3, .inr (.inl (mt_x s k (mt_x s j 1 0) (mt_y s j 1 0)))), (5, .inr (.inl (mt_y s k (mt_x s j 1 0) (mt_y s j 1 0)))), (7, .inr (.inl (mt_x s k (mt_x s j 0 1) (mt_y s j 0 1)))), (9, .inr (.inl (mt_y s k (mt_x s j 0 1) (mt_y s j 0 1)))), (11, .inl f), (12, .inl a)], [], rm (pg_up (pg_up g 0 15 (mt_x s a 1 0)) 0 16 (mt_y s a 1 0)) s n)) (st2 := (97, [(0, .inr (.inr 0)), (1, .inl k), (2, .inl j), (3, .inr (.inl (mt_x s k (mt_x s j 1 0) (mt_y s j 1 0)))), (5, .inr (.inl (mt_y s k (mt_x s j 1 0) (mt_y s j 1 0)))), (7, .inr (.inl (mt_x s k (mt_x s j 0 1) (mt_y s j 0 1)))), (9, .inr (.inl (mt_y s k (mt_x s j 0 1) (mt_y s j 0 1)))), (11, .inl f), (12, .inl a)], [], rm (pg_up (pg_up g 0 15 (mt_x s a 1 0)) 0 16 (mt_y s a 1 0)) s n)) rfl ⟨⟨by omega, by omega⟩, ⟨by omega, by omega⟩⟩ ⟨by omega, by omega⟩ (fun c_94_3 => ?_) (fun c_94_3 => ?_)
      · refine pg_ca 6 (L := []) (Mc := pm_T_map) (as := [.inr (.inr 0), .inl a, .inr (.inl 0), .inr (.inl 1)]) (h0 := rm (pg_up (pg_up g 0 15 (mt_x s a 1 0)) 0 16 (mt_y s a 1 0)) s n) (pc := 122) (lv := [(0, .inr (.inr 0)), (1, .inl k), (2, .inl j), (3, .inr (.inl (mt_x s k (mt_x s j 1 0) (mt_y s j 1 0)))), (5, .inr (.inl (mt_y s k (mt_x s j 1 0) (mt_y s j 1 0)))), (7, .inr (.inl (mt_x s k (mt_x s j 0 1) (mt_y s j 0 1)))), (9, .inr (.inl (mt_y s k (mt_x s j 0 1) (mt_y s j 0 1)))), (11, .inl f), (12, .inl a), (13, .inl 0)]) (rest := []) rfl trivial (re_map (g := (pg_up (pg_up g 0 15 (mt_x s a 1 0)) 0 16 (mt_y s a 1 0))) (rm_B_up (rm_B_up hB (by decide)) (by decide)) a 0 1 ⟨by omega, by omega⟩) ?_
        intro r_1 h_1 e_1; rw [e_1.1, e_1.2]
        refine pg_br 1 (L := []) (P := pg_inR 0) (c := 0 = 0) (st1 := (152, [(0, .inr (.inr 0)), (1, .inl k), (2, .inl j), (3, .inr (.inl (mt_x s k (mt_x s j 1 0) (mt_y s j 1 0)))), (5, .inr (.inl (mt_y s k (mt_x s j 1 0) (mt_y s j 1 0)))), (7, .inr (.inl (mt_x s k (mt_x s j 0 1) (mt_y s j 0 1)))), (9, .inr (.inl (mt_y s k (mt_x s j 0 1) (mt_y s j 0 1)))), (11, .inl f), (12, .inl a), (13, .inl 0)], [], rm (pg_up (pg_up (pg_up (pg_up g 0 15 (mt_x s a 1 0)) 0 16 (mt_y s a 1 0)) 0 15 (mt_x s a 0 1)) 0 16 (mt_y s a 0 1)) s n)) (st2 := (127, [(0, .inr (.inr 0)), (1, .inl k), (2, .inl j), (3, .inr (.inl (mt_x s k (mt_x s j 1 0) (mt_y s j 1 0)))), (5, .inr (.inl (mt_y s k (mt_x s j 1 0) (mt_y s j 1 0)))), (7, .inr (.inl (mt_x s k (mt_x s j 0 1) (mt_y s j 0 1)))), (9, .inr (.inl (mt_y s k (mt_x s j 0 1) (mt_y s j 0 1)))), (11, .inl f), (12, .inl a), (13, .inl 0)], [], rm (pg_up (pg_up (pg_up (pg_up g 0 15 (mt_x s a 1 0)) 0 16 (mt_y s a 1 0)) 0 15 (mt_x s a 0 1)) 0 16 (mt_y s a 0 1)) s n)) rfl trivial ⟨by decide, by decide⟩ (fun c_124_4 => ?_) (fun c_124_4 => ?_)
        · refine pg_go 4 (L := []) (st' := (69, [(0, .inr (.inr 0)), (1, .inl k), (2, .inl j), (3, .inr (.inl (mt_x s k (mt_x s j 1 0) (mt_y s j 1 0)))), (5, .inr (.inl (mt_y s k (mt_x s j 1 0) (mt_y s j 1 0)))), (7, .inr (.inl (mt_x s k (mt_x s j 0 1) (mt_y s j 0 1)))), (9, .inr (.inl (mt_y s k (mt_x s j 0 1) (mt_y s j 0 1)))), (11, .inl f), (12, .inl (a + 1)), (13, .inl 0)], [], rm (pg_up (pg_up (pg_up (pg_up g 0 15 (mt_x s a 1 0)) 0 16 (mt_y s a 1 0)) 0 15 (mt_x s a 0 1)) 0 16 (mt_y s a 0 1)) s n)) rfl trivial ?_
          refine pg_pick [0, 1, 2, 3, 4, 5, 6, 7, 8] rfl ?_
          refine ih _ _ _ (by omega) (by omega) (rf_0 (rf_0 (rf_0 (rf_0 hf (by decide) _) (by decide) _) (by decide) _) (by decide) _) ?_
          first | (rw [if_pos (by omega)]; omega) | (rw [hF]; omega)
        · exact absurd c_124_4 (by decide)
      · refine pg_br 4 (L := [pg_inL (mt_y s a 1 0) ∧ pg_inL (mt_y s k (mt_x s j 1 0) (mt_y s j 1 0))]) (P := pg_inR (pg_cmp (mt_y s a 1 0) (mt_y s k (mt_x s j 1 0) (mt_y s j 1 0)))) (c := ¬ (pg_cmp (mt_y s a 1 0) (mt_y s k (mt_x s j 1 0) (mt_y s j 1 0))) = 0) (st1 := (111, [(0, .inr (.inr 0)), (1, .inl k), (2, .inl j), (3, .inr (.inl (mt_x s k (mt_x s j 1 0) (mt_y s j 1 0)))), (5, .inr (.inl (mt_y s k (mt_x s j 1 0) (mt_y s j 1 0)))), (7, .inr (.inl (mt_x s k (mt_x s j 0 1) (mt_y s j 0 1)))), (9, .inr (.inl (mt_y s k (mt_x s j 0 1) (mt_y s j 0 1)))), (11, .inl f), (12, .inl a)], [], rm (pg_up (pg_up g 0 15 (mt_x s a 1 0)) 0 16 (mt_y s a 1 0)) s n)) (st2 := (107, [(0, .inr (.inr 0)), (1, .inl k), (2, .inl j), (3, .inr (.inl (mt_x s k (mt_x s j 1 0) (mt_y s j 1 0)))), (5, .inr (.inl (mt_y s k (mt_x s j 1 0) (mt_y s j 1 0)))), (7, .inr (.inl (mt_x s k (mt_x s j 0 1) (mt_y s j 0 1)))), (9, .inr (.inl (mt_y s k (mt_x s j 0 1) (mt_y s j 0 1)))), (11, .inl f), (12, .inl a)], [], rm (pg_up (pg_up g 0 15 (mt_x s a 1 0)) 0 16 (mt_y s a 1 0)) s n)) rfl ⟨⟨by omega, by omega⟩, ⟨by omega, by omega⟩⟩ ⟨by omega, by omega⟩ (fun c_104_5 => ?_) (fun c_104_5 => ?_)
        · refine pg_ca 6 (L := []) (Mc := pm_T_map) (as := [.inr (.inr 0), .inl a, .inr (.inl 0), .inr (.inl 1)]) (h0 := rm (pg_up (pg_up g 0 15 (mt_x s a 1 0)) 0 16 (mt_y s a 1 0)) s n) (pc := 122) (lv := [(0, .inr (.inr 0)), (1, .inl k), (2, .inl j), (3, .inr (.inl (mt_x s k (mt_x s j 1 0) (mt_y s j 1 0)))), (5, .inr (.inl (mt_y s k (mt_x s j 1 0) (mt_y s j 1 0)))), (7, .inr (.inl (mt_x s k (mt_x s j 0 1) (mt_y s j 0 1)))), (9, .inr (.inl (mt_y s k (mt_x s j 0 1) (mt_y s j 0 1)))), (11, .inl f), (12, .inl a), (13, .inl 0)]) (rest := []) rfl trivial (re_map (g := (pg_up (pg_up g 0 15 (mt_x s a 1 0)) 0 16 (mt_y s a 1 0))) (rm_B_up (rm_B_up hB (by decide)) (by decide)) a 0 1 ⟨by omega, by omega⟩) ?_
          intro r_1 h_1 e_1; rw [e_1.1, e_1.2]
          refine pg_br 1 (L := []) (P := pg_inR 0) (c := 0 = 0) (st1 := (152, [(0, .inr (.inr 0)), (1, .inl k), (2, .inl j), (3, .inr (.inl (mt_x s k (mt_x s j 1 0) (mt_y s j 1 0)))), (5, .inr (.inl (mt_y s k (mt_x s j 1 0) (mt_y s j 1 0)))), (7, .inr (.inl (mt_x s k (mt_x s j 0 1) (mt_y s j 0 1)))), (9, .inr (.inl (mt_y s k (mt_x s j 0 1) (mt_y s j 0 1)))), (11, .inl f), (12, .inl a), (13, .inl 0)], [], rm (pg_up (pg_up (pg_up (pg_up g 0 15 (mt_x s a 1 0)) 0 16 (mt_y s a 1 0)) 0 15 (mt_x s a 0 1)) 0 16 (mt_y s a 0 1)) s n)) (st2 := (127, [(0, .inr (.inr 0)), (1, .inl k), (2, .inl j), (3, .inr (.inl (mt_x s k (mt_x s j 1 0) (mt_y s j 1 0)))), (5, .inr (.inl (mt_y s k (mt_x s j 1 0) (mt_y s j 1 0)))), (7, .inr (.inl (mt_x s k (mt_x s j 0 1) (mt_y s j 0 1)))), (9, .inr (.inl (mt_y s k (mt_x s j 0 1) (mt_y s j 0 1)))), (11, .inl f), (12, .inl a), (13, .inl 0)], [], rm (pg_up (pg_up (pg_up (pg_up g 0 15 (mt_x s a 1 0)) 0 16 (mt_y s a 1 0)) 0 15 (mt_x s a 0 1)) 0 16 (mt_y s a 0 1)) s n)) rfl trivial ⟨by decide, by decide⟩ (fun c_124_6 => ?_) (fun c_124_6 => ?_)
          · refine pg_go 4 (L := []) (st' := (69, [(0, .inr (.inr 0)), (1, .inl k), (2, .inl j), (3, .inr (.inl (mt_x s k (mt_x s j 1 0) (mt_y s j 1 0)))), (5, .inr (.inl (mt_y s k (mt_x s j 1 0) (mt_y s j 1 0)))), (7, .inr (.inl (mt_x s k (mt_x s j 0 1) (mt_y s j 0 1)))), (9, .inr (.inl (mt_y s k (mt_x s j 0 1) (mt_y s j 0 1)))), (11, .inl f), (12, .inl (a + 1)), (13, .inl 0)], [], rm (pg_up (pg_up (pg_up (pg_up g 0 15 (mt_x s a 1 0)) 0 16 (mt_y s a 1 0)) 0 15 (mt_x s a 0 1)) 0 16 (mt_y s a 0 1)) s n)) rfl trivial ?_
            refine pg_pick [0, 1, 2, 3, 4, 5, 6, 7, 8] rfl ?_
            refine ih _ _ _ (by omega) (by omega) (rf_0 (rf_0 (rf_0 (rf_0 hf (by decide) _) (by decide) _) (by decide) _) (by decide) _) ?_
            first | (rw [if_pos (by omega)]; omega) | (rw [hF]; omega)
          · exact absurd c_124_6 (by decide)
        · refine pg_ca 7 (L := []) (Mc := pm_T_map) (as := [.inr (.inr 0), .inl a, .inr (.inl 0), .inr (.inl 1)]) (h0 := rm (pg_up (pg_up g 0 15 (mt_x s a 1 0)) 0 16 (mt_y s a 1 0)) s n) (pc := 122) (lv := [(0, .inr (.inr 0)), (1, .inl k), (2, .inl j), (3, .inr (.inl (mt_x s k (mt_x s j 1 0) (mt_y s j 1 0)))), (5, .inr (.inl (mt_y s k (mt_x s j 1 0) (mt_y s j 1 0)))), (7, .inr (.inl (mt_x s k (mt_x s j 0 1) (mt_y s j 0 1)))), (9, .inr (.inl (mt_y s k (mt_x s j 0 1) (mt_y s j 0 1)))), (11, .inl f), (12, .inl a), (13, .inl 1)]) (rest := []) rfl trivial (re_map (g := (pg_up (pg_up g 0 15 (mt_x s a 1 0)) 0 16 (mt_y s a 1 0))) (rm_B_up (rm_B_up hB (by decide)) (by decide)) a 0 1 ⟨by omega, by omega⟩) ?_
          intro r_1 h_1 e_1; rw [e_1.1, e_1.2]
          refine pg_br 1 (L := []) (P := pg_inR 1) (c := 1 = 0) (st1 := (152, [(0, .inr (.inr 0)), (1, .inl k), (2, .inl j), (3, .inr (.inl (mt_x s k (mt_x s j 1 0) (mt_y s j 1 0)))), (5, .inr (.inl (mt_y s k (mt_x s j 1 0) (mt_y s j 1 0)))), (7, .inr (.inl (mt_x s k (mt_x s j 0 1) (mt_y s j 0 1)))), (9, .inr (.inl (mt_y s k (mt_x s j 0 1) (mt_y s j 0 1)))), (11, .inl f), (12, .inl a), (13, .inl 1)], [], rm (pg_up (pg_up (pg_up (pg_up g 0 15 (mt_x s a 1 0)) 0 16 (mt_y s a 1 0)) 0 15 (mt_x s a 0 1)) 0 16 (mt_y s a 0 1)) s n)) (st2 := (127, [(0, .inr (.inr 0)), (1, .inl k), (2, .inl j), (3, .inr (.inl (mt_x s k (mt_x s j 1 0) (mt_y s j 1 0)))), (5, .inr (.inl (mt_y s k (mt_x s j 1 0) (mt_y s j 1 0)))), (7, .inr (.inl (mt_x s k (mt_x s j 0 1) (mt_y s j 0 1)))), (9, .inr (.inl (mt_y s k (mt_x s j 0 1) (mt_y s j 0 1)))), (11, .inl f), (12, .inl a), (13, .inl 1)], [], rm (pg_up (pg_up (pg_up (pg_up g 0 15 (mt_x s a 1 0)) 0 16 (mt_y s a 1 0)) 0 15 (mt_x s a 0 1)) 0 16 (mt_y s a 0 1)) s n)) rfl trivial ⟨by decide, by decide⟩ (fun c_124_7 => ?_) (fun c_124_7 => ?_)
          · exact absurd c_124_7 (by decide)
          · refine pg_br 4 (L := [pg_inL (mt_x s a 0 1) ∧ pg_inL (mt_x s k (mt_x s j 0 1) (mt_y s j 0 1))]) (P := pg_inR (pg_cmp (mt_x s a 0 1) (mt_x s k (mt_x s j 0 1) (mt_y s j 0 1)))) (c := ¬ (pg_cmp (mt_x s a 0 1) (mt_x s k (mt_x s j 0 1) (mt_y s j 0 1))) = 0) (st1 := (152, [(0, .inr (.inr 0)), (1, .inl k), (2, .inl j), (3, .inr (.inl (mt_x s k (mt_x s j 1 0) (mt_y s j 1 0)))), (5, .inr (.inl (mt_y s k (mt_x s j 1 0) (mt_y s j 1 0)))), (7, .inr (.inl (mt_x s k (mt_x s j 0 1) (mt_y s j 0 1)))), (9, .inr (.inl (mt_y s k (mt_x s j 0 1) (mt_y s j 0 1)))), (11, .inl f), (12, .inl a), (13, .inl 1)], [], rm (pg_up (pg_up (pg_up (pg_up g 0 15 (mt_x s a 1 0)) 0 16 (mt_y s a 1 0)) 0 15 (mt_x s a 0 1)) 0 16 (mt_y s a 0 1)) s n)) (st2 := (137, [(0, .inr (.inr 0)), (1, .inl k), (2, .inl j), (3, .inr (.inl (mt_x s k (mt_x s j 1 0) (mt_y s j 1 0)))), (5, .inr (.inl (mt_y s k (mt_x s j 1 0) (mt_y s j 1 0)))), (7, .inr (.inl (mt_x s k (mt_x s j 0 1) (mt_y s j 0 1)))), (9, .inr (.inl (mt_y s k (mt_x s j 0 1) (mt_y s j 0 1)))), (11, .inl f), (12, .inl a), (13, .inl 1)], [], rm (pg_up (pg_up (pg_up (pg_up g 0 15 (mt_x s a 1 0)) 0 16 (mt_y s a 1 0)) 0 15 (mt_x s a 0 1)) 0 16 (mt_y s a 0 1)) s n)) rfl ⟨⟨by omega, by omega⟩, ⟨by omega, by omega⟩⟩ ⟨by omega, by omega⟩ (fun c_134_8 => ?_) (fun c_134_8 => ?_)
            · refine pg_go 4 (L := []) (st' := (69, [(0, .inr (.inr 0)), (1, .inl k), (2, .inl j), (3, .inr (.inl (mt_x s k (mt_x s j 1 0) (mt_y s j 1 0)))), (5, .inr (.inl (mt_y s k (mt_x s j 1 0) (mt_y s j 1 0)))), (7, .inr (.inl (mt_x s k (mt_x s j 0 1) (mt_y s j 0 1)))), (9, .inr (.inl (mt_y s k (mt_x s j 0 1) (mt_y s j 0 1)))), (11, .inl f), (12, .inl (a + 1)), (13, .inl 1)], [], rm (pg_up (pg_up (pg_up (pg_up g 0 15 (mt_x s a 1 0)) 0 16 (mt_y s a 1 0)) 0 15 (mt_x s a 0 1)) 0 16 (mt_y s a 0 1)) s n)) rfl trivial ?_
              refine pg_pick [0, 1, 2, 3, 4, 5, 6, 7, 8] rfl ?_
              refine ih _ _ _ (by omega) (by omega) (rf_0 (rf_0 (rf_0 (rf_0 hf (by decide) _) (by decide) _) (by decide) _) (by decide) _) ?_
              first | (rw [if_pos (by omega)]; omega) | (rw [hF]; omega)
            · refine pg_br 4 (L := [pg_inL (mt_y s a 0 1) ∧ pg_inL (mt_y s k (mt_x s j 0 1) (mt_y s j 0 1))]) (P := pg_inR (pg_cmp (mt_y s a 0 1) (mt_y s k (mt_x s j 0 1) (mt_y s j 0 1)))) (c := ¬ (pg_cmp (mt_y s a 0 1) (mt_y s k (mt_x s j 0 1) (mt_y s j 0 1))) = 0) (st1 := (152, [(0, .inr (.inr 0)), (1, .inl k), (2, .inl j), (3, .inr (.inl (mt_x s k (mt_x s j 1 0) (mt_y s j 1 0)))), (5, .inr (.inl (mt_y s k (mt_x s j 1 0) (mt_y s j 1 0)))), (7, .inr (.inl (mt_x s k (mt_x s j 0 1) (mt_y s j 0 1)))), (9, .inr (.inl (mt_y s k (mt_x s j 0 1) (mt_y s j 0 1)))), (11, .inl f), (12, .inl a), (13, .inl 1)], [], rm (pg_up (pg_up (pg_up (pg_up g 0 15 (mt_x s a 1 0)) 0 16 (mt_y s a 1 0)) 0 15 (mt_x s a 0 1)) 0 16 (mt_y s a 0 1)) s n)) (st2 := (147, [(0, .inr (.inr 0)), (1, .inl k), (2, .inl j), (3, .inr (.inl (mt_x s k (mt_x s j 1 0) (mt_y s j 1 0)))), (5, .inr (.inl (mt_y s k (mt_x s j 1 0) (mt_y s j 1 0)))), (7, .inr (.inl (mt_x s k (mt_x s j 0 1) (mt_y s j 0 1)))), (9, .inr (.inl (mt_y s k (mt_x s j 0 1) (mt_y s j 0 1)))), (11, .inl f), (12, .inl a), (13, .inl 1)], [], rm (pg_up (pg_up (pg_up (pg_up g 0 15 (mt_x s a 1 0)) 0 16 (mt_y s a 1 0)) 0 15 (mt_x s a 0 1)) 0 16 (mt_y s a 0 1)) s n)) rfl ⟨⟨by omega, by omega⟩, ⟨by omega, by omega⟩⟩ ⟨by omega, by omega⟩ (fun c_144_9 => ?_) (fun c_144_9 => ?_)
              · refine pg_go 4 (L := []) (st' := (69, [(0, .inr (.inr 0)), (1, .inl k), (2, .inl j), (3, .inr (.inl (mt_x s k (mt_x s j 1 0) (mt_y s j 1 0)))), (5, .inr (.inl (mt_y s k (mt_x s j 1 0) (mt_y s j 1 0)))), (7, .inr (.inl (mt_x s k (mt_x s j 0 1) (mt_y s j 0 1)))), (9, .inr (.inl (mt_y s k (mt_x s j 0 1) (mt_y s j 0 1)))), (11, .inl f), (12, .inl (a + 1)), (13, .inl 1)], [], rm (pg_up (pg_up (pg_up (pg_up g 0 15 (mt_x s a 1 0)) 0 16 (mt_y s a 1 0)) 0 15 (mt_x s a 0 1)) 0 16 (mt_y s a 0 1)) s n)) rfl trivial ?_
                refine pg_pick [0, 1, 2, 3, 4, 5, 6, 7, 8] rfl ?_
                refine ih _ _ _ (by omega) (by omega) (rf_0 (rf_0 (rf_0 (rf_0 hf (by decide) _) (by decide) _) (by decide) _) (by decide) _) ?_
                first | (rw [if_pos (by omega)]; omega) | (rw [hF]; omega)
              · refine pg_go 5 (L := []) (st' := (69, [(0, .inr (.inr 0)), (1, .inl k), (2, .inl j), (3, .inr (.inl (mt_x s k (mt_x s j 1 0) (mt_y s j 1 0)))), (5, .inr (.inl (mt_y s k (mt_x s j 1 0) (mt_y s j 1 0)))), (7, .inr (.inl (mt_x s k (mt_x s j 0 1) (mt_y s j 0 1)))), (9, .inr (.inl (mt_y s k (mt_x s j 0 1) (mt_y s j 0 1)))), (11, .inl a), (12, .inl (a + 1)), (13, .inl 1)], [], rm (pg_up (pg_up (pg_up (pg_up g 0 15 (mt_x s a 1 0)) 0 16 (mt_y s a 1 0)) 0 15 (mt_x s a 0 1)) 0 16 (mt_y s a 0 1)) s n)) rfl trivial ?_
                refine pg_pick [0, 1, 2, 3, 4, 5, 6, 7, 8] rfl ?_
                refine ih _ _ _ (by omega) (by omega) (rf_0 (rf_0 (rf_0 (rf_0 hf (by decide) _) (by decide) _) (by decide) _) (by decide) _) ?_
                first | (rw [if_pos (by omega)]; omega) | (rw [hF]; omega)
theorem re_linear {g : pg_H} {s n : Int} (hB : rm_B g s n) (k j : Int) (hk : 0 ≤ k ∧ k < 2 * mt_rd s) (hj : 0 ≤ j ∧ j < 2 * mt_rd s) : pg_Sem false pm_T_linear [.inr (.inr 0), .inl k, .inl j] (rm g s n) (fun r h' => r = some (.inl (mt_lp s k j)) ∧ ∃ g', h' = rm g' s n ∧ rf [] [15, 16] g g') := by
  obtain ⟨hs, hn, -⟩ := id hB
  have hr := mt_rd_or hs
  have b_x1 := mt_x_bd (s := s) (k := j) (x := 1) (y := 0) 1 (by omega) (by omega)
  have b_y1 := mt_y_bd (s := s) (k := j) (x := 1) (y := 0) 1 (by omega) (by omega)
  have b_x2 := mt_x_bd (s := s) (k := j) (x := 0) (y := 1) 1 (by omega) (by omega)
  have b_y2 := mt_y_bd (s := s) (k := j) (x := 0) (y := 1) 1 (by omega) (by omega)
  have b_x3 := mt_x_bd (s := s) (k := k) (x := mt_x s j 1 0) (y := mt_y s j 1 0) 2 (by omega) (by omega)
  have b_y3 := mt_y_bd (s := s) (k := k) (x := mt_x s j 1 0) (y := mt_y s j 1 0) 2 (by omega) (by omega)
  have b_x4 := mt_x_bd (s := s) (k := k) (x := mt_x s j 0 1) (y := mt_y s j 0 1) 2 (by omega) (by omega)
  have b_y4 := mt_y_bd (s := s) (k := k) (x := mt_x s j 0 1) (y := mt_y s j 0 1) 2 (by omega) (by omega)
  refine pg_Sem_of pm_T_linear_f rfl ?_
  refine pg_ca 4 (L := []) (Mc := pm_T_map) (as := [.inr (.inr 0), .inl j, .inr (.inl 1), .inr (.inl 0)]) (h0 := rm g s n) (pc := 7) (lv := [(0, .inr (.inr 0)), (1, .inl k), (2, .inl j)]) (rest := []) rfl trivial (re_map (g := g) hB j 1 0 ⟨by omega, by omega⟩) ?_
  intro r_1 h_1 e_1; rw [e_1.1, e_1.2]
  refine pg_ca 6 (L := []) (Mc := pm_T_map) (as := [.inr (.inr 0), .inl k, .inr (.inl (mt_x s j 1 0)), .inr (.inl (mt_y s j 1 0))]) (h0 := rm (pg_up (pg_up g 0 15 (mt_x s j 1 0)) 0 16 (mt_y s j 1 0)) s n) (pc := 20) (lv := [(0, .inr (.inr 0)), (1, .inl k), (2, .inl j)]) (rest := []) rfl trivial (re_map (g := (pg_up (pg_up g 0 15 (mt_x s j 1 0)) 0 16 (mt_y s j 1 0))) (rm_B_up (rm_B_up hB (by decide)) (by decide)) k (mt_x s j 1 0) (mt_y s j 1 0) ⟨by omega, by omega⟩) ?_
  intro r_1 h_1 e_1; rw [e_1.1, e_1.2]
  refine pg_ca 10 (L := []) (Mc := pm_T_map) (as := [.inr (.inr 0), .inl j, .inr (.inl 0), .inr (.inl 1)]) (h0 := rm (pg_up (pg_up (pg_up (pg_up g 0 15 (mt_x s j 1 0)) 0 16 (mt_y s j 1 0)) 0 15 (mt_x s k (mt_x s j 1 0) (mt_y s j 1 0))) 0 16 (mt_y s k (mt_x s j 1 0) (mt_y s j 1 0))) s n) (pc := 38) (lv := [(0, .inr (.inr 0)), (1, .inl k), (2, .inl j), (3, .inr (.inl (mt_x s k (mt_x s j 1 0) (mt_y s j 1 0)))), (5, .inr (.inl (mt_y s k (mt_x s j 1 0) (mt_y s j 1 0))))]) (rest := []) rfl trivial (re_map (g := (pg_up (pg_up (pg_up (pg_up g 0 15 (mt_x s j 1 0)) 0 16 (mt_y s j 1 0)) 0 15 (mt_x s k (mt_x s j 1 0) (mt_y s j 1 0))) 0 16 (mt_y s k (mt_x s j 1 0) (mt_y s j 1 0)))) (rm_B_up (rm_B_up (rm_B_up (rm_B_up hB (by decide)) (by decide)) (by decide)) (by decide)) j 0 1 ⟨by omega, by omega⟩) ?_
  intro r_1 h_1 e_1; rw [e_1.1, e_1.2]
  refine pg_ca 6 (L := []) (Mc := pm_T_map) (as := [.inr (.inr 0), .inl k, .inr (.inl (mt_x s j 0 1)), .inr (.inl (mt_y s j 0 1))]) (h0 := rm (pg_up (pg_up (pg_up (pg_up (pg_up (pg_up g 0 15 (mt_x s j 1 0)) 0 16 (mt_y s j 1 0)) 0 15 (mt_x s k (mt_x s j 1 0) (mt_y s j 1 0))) 0 16 (mt_y s k (mt_x s j 1 0) (mt_y s j 1 0))) 0 15 (mt_x s j 0 1)) 0 16 (mt_y s j 0 1)) s n) (pc := 51) (lv := [(0, .inr (.inr 0)), (1, .inl k), (2, .inl j), (3, .inr (.inl (mt_x s k (mt_x s j 1 0) (mt_y s j 1 0)))), (5, .inr (.inl (mt_y s k (mt_x s j 1 0) (mt_y s j 1 0))))]) (rest := []) rfl trivial (re_map (g := (pg_up (pg_up (pg_up (pg_up (pg_up (pg_up g 0 15 (mt_x s j 1 0)) 0 16 (mt_y s j 1 0)) 0 15 (mt_x s k (mt_x s j 1 0) (mt_y s j 1 0))) 0 16 (mt_y s k (mt_x s j 1 0) (mt_y s j 1 0))) 0 15 (mt_x s j 0 1)) 0 16 (mt_y s j 0 1))) (rm_B_up (rm_B_up (rm_B_up (rm_B_up (rm_B_up (rm_B_up hB (by decide)) (by decide)) (by decide)) (by decide)) (by decide)) (by decide)) k (mt_x s j 0 1) (mt_y s j 0 1) ⟨by omega, by omega⟩) ?_
  intro r_1 h_1 e_1; rw [e_1.1, e_1.2]
  refine pg_go 10 (L := []) (st' := (69, [(0, .inr (.inr 0)), (1, .inl k), (2, .inl j), (3, .inr (.inl (mt_x s k (mt_x s j 1 0) (mt_y s j 1 0)))), (5, .inr (.inl (mt_y s k (mt_x s j 1 0) (mt_y s j 1 0)))), (7, .inr (.inl (mt_x s k (mt_x s j 0 1) (mt_y s j 0 1)))), (9, .inr (.inl (mt_y s k (mt_x s j 0 1) (mt_y s j 0 1)))), (11, .inl (-1)), (12, .inl 0)], [], rm (pg_up (pg_up (pg_up (pg_up (pg_up (pg_up (pg_up (pg_up g 0 15 (mt_x s j 1 0)) 0 16 (mt_y s j 1 0)) 0 15 (mt_x s k (mt_x s j 1 0) (mt_y s j 1 0))) 0 16 (mt_y s k (mt_x s j 1 0) (mt_y s j 1 0))) 0 15 (mt_x s j 0 1)) 0 16 (mt_y s j 0 1)) 0 15 (mt_x s k (mt_x s j 0 1) (mt_y s j 0 1))) 0 16 (mt_y s k (mt_x s j 0 1) (mt_y s j 0 1))) s n)) rfl trivial ?_
  refine re_lin_l hB (k := k) (j := j) hk hj (2 * mt_rd s).toNat _ _ _ (by omega) (by omega) (rf_0 (rf_0 (rf_0 (rf_0 (rf_0 (rf_0 (rf_0 (rf_0 (rf_rf _ _ _) (by decide) _) (by decide) _) (by decide) _) (by decide) _) (by decide) _) (by decide) _) (by decide) _) (by decide) _) ?_
  have hlb := mt_lp_bd hs hk hj
  rw [if_neg (by omega)]
set_option maxHeartbeats 4000000 in
theorem re_product {g : pg_H} {s n : Int} (hB : rm_B g s n) (a b : Int) (ha : 0 ≤ a ∧ a < 2 * mt_rd s * (n * n)) (hb : 0 ≤ b ∧ b < 2 * mt_rd s * (n * n)) : pg_Sem false pm_T_product [.inr (.inr 0), .inl a, .inl b] (rm g s n) (fun r h' => r = some (.inl (mt_pr s n a b)) ∧ ∃ g', h' = rm g' s n ∧ rf [] [15, 16] g g') := by
  obtain ⟨hs, hn, hT⟩ := id hB
  obtain ⟨hn1, hn2⟩ := id hn
  have hr := mt_rd_or hs
  have a1 := mt_kof hn1 ha
  have b1 := mt_kof hn1 hb
  have a2 := mt_mv_lt hs hn1 hn2 ha
  have b2 := mt_mv_lt hs hn1 hn2 hb
  have a3 := mt_mod hn1 (a / n)
  have b3 := mt_mod hn1 (b / n)
  have a4 := mt_mod hn1 a
  have b4 := mt_mod hn1 b
  have hX := mt_x_bd (s := s) (k := a / (n * n)) (x := b / n % n) (y := b % n) 12 (by omega) (by omega)
  have hY := mt_y_bd (s := s) (k := a / (n * n)) (x := b / n % n) (y := b % n) 12 (by omega) (by omega)
  have hl := mt_lp_bd hs a1 b1
  refine pg_Sem_of pm_T_product_f rfl ?_
  refine pg_ca 3 (L := []) (Mc := pm_T_kOf) (as := [.inr (.inr 0), .inl a]) (h0 := rm g s n) (pc := 6) (lv := [(0, .inr (.inr 0)), (1, .inl a), (2, .inl b)]) (rest := [.inr (.inr 0)]) rfl trivial (re_kOf (g := g) (s := s) hn a ⟨by omega, by omega⟩) ?_
  intro r_1 h_1 e_1; rw [e_1.1, e_1.2]
  refine pg_ca 2 (L := []) (Mc := pm_T_uOf) (as := [.inr (.inr 0), .inl b]) (h0 := rm g s n) (pc := 11) (lv := [(0, .inr (.inr 0)), (1, .inl a), (2, .inl b)]) (rest := [.inl (a / (n * n)), .inr (.inr 0)]) rfl trivial (re_uOf (g := g) (s := s) hn b ⟨by omega, by omega⟩) ?_
  intro r_1 h_1 e_1; rw [e_1.1, e_1.2]
  refine pg_ca 3 (L := [pg_inR (b / n % n)]) (Mc := pm_T_vOf) (as := [.inr (.inr 0), .inl b]) (h0 := rm g s n) (pc := 17) (lv := [(0, .inr (.inr 0)), (1, .inl a), (2, .inl b)]) (rest := [.inr (.inl (b / n % n)), .inl (a / (n * n)), .inr (.inr 0)]) rfl ⟨by omega, by omega⟩ (re_vOf (g := g) (s := s) hn b ⟨by omega, by omega⟩) ?_
  intro r_1 h_1 e_1; rw [e_1.1, e_1.2]
  refine pg_ca 1 (L := [pg_inR (b % n)]) (Mc := pm_T_map) (as := [.inr (.inr 0), .inl (a / (n * n)), .inr (.inl (b / n % n)), .inr (.inl (b % n))]) (h0 := rm g s n) (pc := 21) (lv := [(0, .inr (.inr 0)), (1, .inl a), (2, .inl b)]) (rest := []) rfl ⟨by omega, by omega⟩ (re_map (g := g) hB (a / (n * n)) (b / n % n) (b % n) ⟨by omega, by omega⟩) ?_
  intro r_1 h_1 e_1; rw [e_1.1, e_1.2]
  refine pg_ca 4 (L := []) (Mc := pm_T_uOf) (as := [.inr (.inr 0), .inl a]) (h0 := rm (pg_up (pg_up g 0 15 (mt_x s (a / (n * n)) (b / n % n) (b % n))) 0 16 (mt_y s (a / (n * n)) (b / n % n) (b % n))) s n) (pc := 30) (lv := [(0, .inr (.inr 0)), (1, .inl a), (2, .inl b)]) (rest := [.inr (.inl (mt_x s (a / (n * n)) (b / n % n) (b % n)))]) rfl trivial (re_uOf (g := (pg_up (pg_up g 0 15 (mt_x s (a / (n * n)) (b / n % n) (b % n))) 0 16 (mt_y s (a / (n * n)) (b / n % n) (b % n)))) (s := s) hn a ⟨by omega, by omega⟩) ?_
  intro r_1 h_1 e_1; rw [e_1.1, e_1.2]
  refine pg_ca 7 (L := [pg_inR (a / n % n)]) (Mc := pm_T_vOf) (as := [.inr (.inr 0), .inl a]) (h0 := rm (pg_up (pg_up g 0 15 (mt_x s (a / (n * n)) (b / n % n) (b % n))) 0 16 (mt_y s (a / (n * n)) (b / n % n) (b % n))) s n) (pc := 42) (lv := [(0, .inr (.inr 0)), (1, .inl a), (2, .inl b), (3, .inr (.inl ((mt_x s (a / (n * n)) (b / n % n) (b % n)) + (a / n % n))))]) (rest := [.inr (.inl (mt_y s (a / (n * n)) (b / n % n) (b % n)))]) rfl ⟨by omega, by omega⟩ (re_vOf (g := (pg_up (pg_up g 0 15 (mt_x s (a / (n * n)) (b / n % n) (b % n))) 0 16 (mt_y s (a / (n * n)) (b / n % n) (b % n)))) (s := s) hn a ⟨by omega, by omega⟩) ?_
  intro r_1 h_1 e_1; rw [e_1.1, e_1.2]
  refine pg_ca 7 (L := [pg_inR (a % n)]) (Mc := pm_T_kOf) (as := [.inr (.inr 0), .inl a]) (h0 := rm (pg_up (pg_up g 0 15 (mt_x s (a / (n * n)) (b / n % n) (b % n))) 0 16 (mt_y s (a / (n * n)) (b / n % n) (b % n))) s n) (pc := 53) (lv := [(0, .inr (.inr 0)), (1, .inl a), (2, .inl b), (3, .inr (.inl ((mt_x s (a / (n * n)) (b / n % n) (b % n)) + (a / n % n)))), (5, .inr (.inl ((mt_y s (a / (n * n)) (b / n % n) (b % n)) + (a % n))))]) (rest := [.inr (.inr 0), .inr (.inr 0)]) rfl ⟨by omega, by omega⟩ (re_kOf (g := (pg_up (pg_up g 0 15 (mt_x s (a / (n * n)) (b / n % n) (b % n))) 0 16 (mt_y s (a / (n * n)) (b / n % n) (b % n)))) (s := s) hn a ⟨by omega, by omega⟩) ?_
  intro r_1 h_1 e_1; rw [e_1.1, e_1.2]
  refine pg_ca 2 (L := []) (Mc := pm_T_kOf) (as := [.inr (.inr 0), .inl b]) (h0 := rm (pg_up (pg_up g 0 15 (mt_x s (a / (n * n)) (b / n % n) (b % n))) 0 16 (mt_y s (a / (n * n)) (b / n % n) (b % n))) s n) (pc := 58) (lv := [(0, .inr (.inr 0)), (1, .inl a), (2, .inl b), (3, .inr (.inl ((mt_x s (a / (n * n)) (b / n % n) (b % n)) + (a / n % n)))), (5, .inr (.inl ((mt_y s (a / (n * n)) (b / n % n) (b % n)) + (a % n))))]) (rest := [.inl (a / (n * n)), .inr (.inr 0), .inr (.inr 0)]) rfl trivial (re_kOf (g := (pg_up (pg_up g 0 15 (mt_x s (a / (n * n)) (b / n % n) (b % n))) 0 16 (mt_y s (a / (n * n)) (b / n % n) (b % n)))) (s := s) hn b ⟨by omega, by omega⟩) ?_
  intro r_1 h_1 e_1; rw [e_1.1, e_1.2]
  refine pg_ca 0 (L := []) (Mc := pm_T_linear) (as := [.inr (.inr 0), .inl (a / (n * n)), .inl (b / (n * n))]) (h0 := rm (pg_up (pg_up g 0 15 (mt_x s (a / (n * n)) (b / n % n) (b % n))) 0 16 (mt_y s (a / (n * n)) (b / n % n) (b % n))) s n) (pc := 61) (lv := [(0, .inr (.inr 0)), (1, .inl a), (2, .inl b), (3, .inr (.inl ((mt_x s (a / (n * n)) (b / n % n) (b % n)) + (a / n % n)))), (5, .inr (.inl ((mt_y s (a / (n * n)) (b / n % n) (b % n)) + (a % n))))]) (rest := [.inr (.inr 0)]) rfl trivial (re_linear (g := (pg_up (pg_up g 0 15 (mt_x s (a / (n * n)) (b / n % n) (b % n))) 0 16 (mt_y s (a / (n * n)) (b / n % n) (b % n)))) (rm_B_up (rm_B_up hB (by decide)) (by decide)) (a / (n * n)) (b / (n * n)) ⟨by omega, by omega⟩ ⟨by omega, by omega⟩) ?_
  intro r_1 h_1 e_1; obtain ⟨er_, g1, eh_, ef1⟩ := e_1; rw [er_, eh_]; have hB1 := rm_B_fr (rm_B_up (rm_B_up hB (by decide)) (by decide)) ef1 (by decide)
  refine pg_ca 2 (L := []) (Mc := pm_T_moveOf) (as := [.inr (.inr 0), .inl (mt_lp s (a / (n * n)) (b / (n * n))), .inr (.inl ((mt_x s (a / (n * n)) (b / n % n) (b % n)) + (a / n % n))), .inr (.inl ((mt_y s (a / (n * n)) (b / n % n) (b % n)) + (a % n)))]) (h0 := rm g1 s n) (pc := 67) (lv := [(0, .inr (.inr 0)), (1, .inl a), (2, .inl b), (3, .inr (.inl ((mt_x s (a / (n * n)) (b / n % n) (b % n)) + (a / n % n)))), (5, .inr (.inl ((mt_y s (a / (n * n)) (b / n % n) (b % n)) + (a % n))))]) (rest := []) rfl trivial (re_moveOf (g := g1) (s := s) hn (mt_lp s (a / (n * n)) (b / (n * n))) ((mt_x s (a / (n * n)) (b / n % n) (b % n)) + (a / n % n)) ((mt_y s (a / (n * n)) (b / n % n) (b % n)) + (a % n)) ⟨by omega, by omega⟩ ⟨by omega, by omega⟩) ?_
  intro r_1 h_1 e_1; rw [e_1.1, e_1.2]
  refine pg_re 0 (L := []) (r := some (.inl (mt_cd n (mt_lp s (a / (n * n)) (b / (n * n))) ((mt_x s (a / (n * n)) (b / n % n) (b % n)) + (a / n % n)) ((mt_y s (a / (n * n)) (b / n % n) (b % n)) + (a % n))))) (h0 := rm g1 s n) rfl trivial ?_
  refine ⟨rfl, _, rfl, ?_⟩
  exact rf_tr (rf_0 (rf_0 (rf_rf _ _ _) (by decide) _) (by decide) _) ef1 (by decide) (by decide)
set_option maxHeartbeats 4000000 in
theorem re_both {g : pg_H} {s n : Int} (hB : rm_B g s n) (k : Int) (hk : pg_inR k) (u : Int) (hu : pg_inR u) (v : Int) (hv : pg_inR v) (j : Int) (hj : pg_inR j) (x : Int) (hx : pg_inR x) (y : Int) (hy : pg_inR y) (w : Int) (hw : pg_inR w) : pg_Sem false pm_T_both [.inr (.inr 0), .inl k, .inl u, .inl v, .inl j, .inl x, .inl y, .inl w] (rm g s n) (fun r h' => r = some (.inl (if (0 ≤ k ∧ k < 2 * mt_rd s) ∧ (0 ≤ j ∧ j < 2 * mt_rd s) ∧ 0 ≤ w ∧ w ≤ 2 then (if w = 0 then mt_pr s n (mt_cd n k u v) (mt_cd n j x y) / (n * n) else if w = 1 then mt_pr s n (mt_cd n k u v) (mt_cd n j x y) / n % n else mt_pr s n (mt_cd n k u v) (mt_cd n j x y) % n) else -2)) ∧ ∃ g', h' = rm g' s n ∧ rf [] [15, 16] g g') := by
  obtain ⟨hs, hn, hT⟩ := id hB
  obtain ⟨hn1, hn2⟩ := id hn
  have hr := mt_rd_or hs
  obtain ⟨k1, k2⟩ := hk
  obtain ⟨u1, u2⟩ := hu
  obtain ⟨v1, v2⟩ := hv
  obtain ⟨j1, j2⟩ := hj
  obtain ⟨x1, x2⟩ := hx
  obtain ⟨y1, y2⟩ := hy
  obtain ⟨w1, w2⟩ := hw
  refine pg_Sem_of pm_T_both_f rfl ?_
  refine pg_ca 2 (L := []) (Mc := pm_T_isK) (as := [.inr (.inr 0), .inl k]) (h0 := rm g s n) (pc := 5) (lv := [(0, .inr (.inr 0)), (1, .inl k), (2, .inl u), (3, .inl v), (4, .inl j), (5, .inl x), (6, .inl y), (7, .inl w)]) (rest := []) rfl trivial (re_isK (g := g) (n := n) hs k ⟨by omega, by omega⟩) ?_
  intro r_1 h_1 e_1; rw [e_1.1, e_1.2]
  have hik_2 : ((if 0 ≤ k ∧ k < 2 * mt_rd s then (1 : Int) else 0) = 1 ∧ (0 ≤ k ∧ k < 2 * mt_rd s)) ∨ ((if 0 ≤ k ∧ k < 2 * mt_rd s then (1 : Int) else 0) = 0 ∧ ¬ (0 ≤ k ∧ k < 2 * mt_rd s)) := by split <;> simp_all
  refine pg_br 0 (L := []) (P := pg_inR (if 0 ≤ k ∧ k < 2 * mt_rd s then 1 else 0)) (c := (if 0 ≤ k ∧ k < 2 * mt_rd s then 1 else 0) = 0) (st1 := (30, [(0, .inr (.inr 0)), (1, .inl k), (2, .inl u), (3, .inl v), (4, .inl j), (5, .inl x), (6, .inl y), (7, .inl w)], [], rm g s n)) (st2 := (8, [(0, .inr (.inr 0)), (1, .inl k), (2, .inl u), (3, .inl v), (4, .inl j), (5, .inl x), (6, .inl y), (7, .inl w)], [], rm g s n)) rfl trivial ⟨by omega, by omega⟩ (fun c_5_1 => ?_) (fun c_5_1 => ?_)
  · refine pg_re 1 (L := []) (r := some (.inl (-2))) (h0 := rm g s n) rfl trivial ?_
    refine ⟨?_, _, rfl, rf_rf _ _ _⟩
    rw [if_neg (show ¬ ((0 ≤ k ∧ k < 2 * mt_rd s) ∧ (0 ≤ j ∧ j < 2 * mt_rd s) ∧ 0 ≤ w ∧ w ≤ 2) by omega)]
  · refine pg_ca 2 (L := []) (Mc := pm_T_isK) (as := [.inr (.inr 0), .inl j]) (h0 := rm g s n) (pc := 14) (lv := [(0, .inr (.inr 0)), (1, .inl k), (2, .inl u), (3, .inl v), (4, .inl j), (5, .inl x), (6, .inl y), (7, .inl w)]) (rest := []) rfl trivial (re_isK (g := g) (n := n) hs j ⟨by omega, by omega⟩) ?_
    intro r_1 h_1 e_1; rw [e_1.1, e_1.2]
    have hik_11 : ((if 0 ≤ j ∧ j < 2 * mt_rd s then (1 : Int) else 0) = 1 ∧ (0 ≤ j ∧ j < 2 * mt_rd s)) ∨ ((if 0 ≤ j ∧ j < 2 * mt_rd s then (1 : Int) else 0) = 0 ∧ ¬ (0 ≤ j ∧ j < 2 * mt_rd s)) := by split <;> simp_all
    refine pg_br 0 (L := []) (P := pg_inR (if 0 ≤ j ∧ j < 2 * mt_rd s then 1 else 0)) (c := (if 0 ≤ j ∧ j < 2 * mt_rd s then 1 else 0) = 0) (st1 := (30, [(0, .inr (.inr 0)), (1, .inl k), (2, .inl u), (3, .inl v), (4, .inl j), (5, .inl x), (6, .inl y), (7, .inl w)], [], rm g s n)) (st2 := (17, [(0, .inr (.inr 0)), (1, .inl k), (2, .inl u), (3, .inl v), (4, .inl j), (5, .inl x), (6, .inl y), (7, .inl w)], [], rm g s n)) rfl trivial ⟨by omega, by omega⟩ (fun c_14_2 => ?_) (fun c_14_2 => ?_)
    · refine pg_re 1 (L := []) (r := some (.inl (-2))) (h0 := rm g s n) rfl trivial ?_
      refine ⟨?_, _, rfl, rf_rf _ _ _⟩
      rw [if_neg (show ¬ ((0 ≤ k ∧ k < 2 * mt_rd s) ∧ (0 ≤ j ∧ j < 2 * mt_rd s) ∧ 0 ≤ w ∧ w ≤ 2) by omega)]
    · refine pg_ca 4 (L := [pg_inR w]) (Mc := pm_T_isIn) (as := [.inr (.inl w), .inr (.inl 0), .inr (.inl 2)]) (h0 := rm g s n) (pc := 27) (lv := [(0, .inr (.inr 0)), (1, .inl k), (2, .inl u), (3, .inl v), (4, .inl j), (5, .inl x), (6, .inl y), (7, .inl w)]) (rest := []) rfl ⟨by omega, by omega⟩ (re_isIn (rm g s n) w 0 2 ⟨by omega, by omega⟩ ⟨by omega, by omega⟩ ⟨by omega, by omega⟩) ?_
      intro r_1 h_1 e_1; rw [e_1.1, e_1.2]
      have hin_24 : ((if 0 ≤ w ∧ w ≤ 2 then (1 : Int) else 0) = 1 ∧ (0 ≤ w ∧ w ≤ 2)) ∨ ((if 0 ≤ w ∧ w ≤ 2 then (1 : Int) else 0) = 0 ∧ ¬ (0 ≤ w ∧ w ≤ 2)) := by split <;> simp_all
      refine pg_br 0 (L := []) (P := pg_inR (if 0 ≤ w ∧ w ≤ 2 then 1 else 0)) (c := ¬ (if 0 ≤ w ∧ w ≤ 2 then 1 else 0) = 0) (st1 := (33, [(0, .inr (.inr 0)), (1, .inl k), (2, .inl u), (3, .inl v), (4, .inl j), (5, .inl x), (6, .inl y), (7, .inl w)], [], rm g s n)) (st2 := (30, [(0, .inr (.inr 0)), (1, .inl k), (2, .inl u), (3, .inl v), (4, .inl j), (5, .inl x), (6, .inl y), (7, .inl w)], [], rm g s n)) rfl trivial ⟨by omega, by omega⟩ (fun c_27_3 => ?_) (fun c_27_3 => ?_)
      · refine pg_ca 8 (L := [pg_inR u, pg_inR v]) (Mc := pm_T_moveOf) (as := [.inr (.inr 0), .inl k, .inr (.inl u), .inr (.inl v)]) (h0 := rm g s n) (pc := 44) (lv := [(0, .inr (.inr 0)), (1, .inl k), (2, .inl u), (3, .inl v), (4, .inl j), (5, .inl x), (6, .inl y), (7, .inl w)]) (rest := [.inr (.inr 0), .inr (.inr 0)]) rfl ⟨⟨by omega, by omega⟩, ⟨by omega, by omega⟩⟩ (re_moveOf (g := g) (s := s) hn k u v ⟨by omega, by omega⟩ ⟨by omega, by omega⟩) ?_
        intro r_1 h_1 e_1; rw [e_1.1, e_1.2]
        refine pg_ca 6 (L := [pg_inR x, pg_inR y]) (Mc := pm_T_moveOf) (as := [.inr (.inr 0), .inl j, .inr (.inl x), .inr (.inl y)]) (h0 := rm g s n) (pc := 56) (lv := [(0, .inr (.inr 0)), (1, .inl k), (2, .inl u), (3, .inl v), (4, .inl j), (5, .inl x), (6, .inl y), (7, .inl w)]) (rest := [.inl (mt_cd n k u v), .inr (.inr 0), .inr (.inr 0)]) rfl ⟨⟨by omega, by omega⟩, ⟨by omega, by omega⟩⟩ (re_moveOf (g := g) (s := s) hn j x y ⟨by omega, by omega⟩ ⟨by omega, by omega⟩) ?_
        intro r_1 h_1 e_1; rw [e_1.1, e_1.2]
        refine pg_ca 0 (L := []) (Mc := pm_T_product) (as := [.inr (.inr 0), .inl (mt_cd n k u v), .inl (mt_cd n j x y)]) (h0 := rm g s n) (pc := 59) (lv := [(0, .inr (.inr 0)), (1, .inl k), (2, .inl u), (3, .inl v), (4, .inl j), (5, .inl x), (6, .inl y), (7, .inl w)]) (rest := [.inr (.inr 0)]) rfl trivial (re_product (g := g) hB (mt_cd n k u v) (mt_cd n j x y) (mt_cdb hn (by omega)) (mt_cdb hn (by omega))) ?_
        intro r_1 h_1 e_1; obtain ⟨er_, g2, eh_, ef2⟩ := e_1; rw [er_, eh_]
        have hpb := mt_2rd hs hn (mt_pr_bd hs hn (a := (mt_cd n k u v)) (b := (mt_cd n j x y)) (mt_cdb hn (by omega)) (mt_cdb hn (by omega)))
        refine pg_ca 1 (L := []) (Mc := pm_T_tell) (as := [.inr (.inr 0), .inl (mt_pr s n (mt_cd n k u v) (mt_cd n j x y)), .inl w]) (h0 := rm g2 s n) (pc := 64) (lv := [(0, .inr (.inr 0)), (1, .inl k), (2, .inl u), (3, .inl v), (4, .inl j), (5, .inl x), (6, .inl y), (7, .inl w)]) (rest := []) rfl trivial (re_tell (g := g2) (s := s) hn (mt_pr s n (mt_cd n k u v) (mt_cd n j x y)) w ⟨by omega, by omega⟩ ⟨by omega, by omega⟩) ?_
        intro r_1 h_1 e_1; rw [e_1.1, e_1.2]
        refine pg_re 0 (L := []) (r := some (.inl (if w = 0 then (mt_pr s n (mt_cd n k u v) (mt_cd n j x y)) / (n * n) else if w = 1 then (mt_pr s n (mt_cd n k u v) (mt_cd n j x y)) / n % n else (mt_pr s n (mt_cd n k u v) (mt_cd n j x y)) % n))) (h0 := rm g2 s n) rfl trivial ?_
        refine ⟨?_, _, rfl, ef2⟩
        rw [if_pos (show (0 ≤ k ∧ k < 2 * mt_rd s) ∧ (0 ≤ j ∧ j < 2 * mt_rd s) ∧ 0 ≤ w ∧ w ≤ 2 by omega)]
      · refine pg_re 1 (L := []) (r := some (.inl (-2))) (h0 := rm g s n) rfl trivial ?_
        refine ⟨?_, _, rfl, rf_rf _ _ _⟩
        rw [if_neg (show ¬ ((0 ≤ k ∧ k < 2 * mt_rd s) ∧ (0 ≤ j ∧ j < 2 * mt_rd s) ∧ 0 ≤ w ∧ w ≤ 2) by omega)]
set_option maxHeartbeats 4000000 in
theorem re_back_l {g0 : pg_H} {s n : Int} (hB0 : rm_B g0 s n) {k u v w : Int} (hk : 0 ≤ k ∧ k < 2 * mt_rd s) (hw : 0 ≤ w ∧ w ≤ 2) : ∀ (d : Nat) (g : pg_H) (f a : Int) (hd : a + (d : Int) = 2 * mt_rd s) (ha : 0 ≤ a) (hf : rf [] [15, 16] g0 g) (hF : f = if mt_li s k < a then mt_cd n (mt_li s k) (-mt_x s (mt_li s k) (mt_cd n k u v / n % n) (mt_cd n k u v % n)) (-mt_y s (mt_li s k) (mt_cd n k u v / n % n) (mt_cd n k u v % n)) else -1), pg_Good false pm_T_back (fun r h' => r = some (.inl (if w = 0 then mt_iv s n (mt_cd n k u v) / (n * n) else if w = 1 then mt_iv s n (mt_cd n k u v) / n % n else mt_iv s n (mt_cd n k u v) % n)) ∧ ∃ g', h' = rm g' s n ∧ rf [] [15, 16] g0 g') (41, [(0, .inr (.inr 0)), (1, .inl k), (2, .inl u), (3, .inl v), (4, .inl w), (5, .inl (mt_cd n k u v)), (6, .inl f), (7, .inl a)], [], rm g s n) := by
  intro d
  induction d with
  | zero =>
    intro g f a hd ha hf hF
    have hB := rm_B_fr hB0 hf (by decide)
    obtain ⟨hs, hn, -⟩ := id hB
    obtain ⟨hn1, hn2⟩ := id hn
    have hr := mt_rd_or hs
    have hlb := mt_li_bd hs hk
    have hfb : 0 ≤ f ∧ f < 1000000 := by rw [hF, if_pos (by omega)]; have := mt_2rd hs hn (mt_cdb (u := -mt_x s (mt_li s k) (mt_cd n k u v / n % n) (mt_cd n k u v % n)) (v := -mt_y s (mt_li s k) (mt_cd n k u v / n % n) (mt_cd n k u v % n)) hn hlb); omega
    refine pg_ca 3 (L := []) (Mc := pm_T_round) (as := [.inr (.inr 0)]) (h0 := rm g s n) (pc := 48) (lv := [(0, .inr (.inr 0)), (1, .inl k), (2, .inl u), (3, .inl v), (4, .inl w), (5, .inl (mt_cd n k u v)), (6, .inl f), (7, .inl a)]) (rest := [.inl 2, .inl a]) rfl trivial (re_round (g := g) (n := n) hs) ?_
    intro r_1 h_1 e_1; rw [e_1.1, e_1.2]
    refine pg_br 1 (L := []) (P := pg_inR a ∧ pg_inR (2 * (mt_rd s))) (c := (2 * (mt_rd s)) ≤ a) (st1 := (106, [(0, .inr (.inr 0)), (1, .inl k), (2, .inl u), (3, .inl v), (4, .inl w), (5, .inl (mt_cd n k u v)), (6, .inl f), (7, .inl a)], [], rm g s n)) (st2 := (52, [(0, .inr (.inr 0)), (1, .inl k), (2, .inl u), (3, .inl v), (4, .inl w), (5, .inl (mt_cd n k u v)), (6, .inl f), (7, .inl a)], [], rm g s n)) rfl trivial ⟨⟨by omega, by omega⟩, ⟨by omega, by omega⟩⟩ (fun c_49_1 => ?_) (fun c_49_1 => ?_)
    · refine pg_ca 3 (L := []) (Mc := pm_T_tell) (as := [.inr (.inr 0), .inl f, .inl w]) (h0 := rm g s n) (pc := 114) (lv := [(0, .inr (.inr 0)), (1, .inl k), (2, .inl u), (3, .inl v), (4, .inl w), (5, .inl (mt_cd n k u v)), (6, .inl f), (7, .inl a)]) (rest := []) rfl trivial (re_tell (g := g) (s := s) hn f w ⟨by omega, by omega⟩ ⟨by omega, by omega⟩) ?_
      intro r_1 h_1 e_1; rw [e_1.1, e_1.2]
      refine pg_re 0 (L := []) (r := some (.inl (if w = 0 then f / (n * n) else if w = 1 then f / n % n else f % n))) (h0 := rm g s n) rfl trivial ?_
      refine ⟨?_, g, rfl, hf⟩
      have e : f = mt_iv s n (mt_cd n k u v) := by rw [hF, if_pos (by omega)]; unfold mt_iv; rw [(mt_cd_k hn).1]
      rw [← e]
    · exact (by exfalso; omega)
  | succ d ih =>
    intro g f a hd ha hf hF
    have hB := rm_B_fr hB0 hf (by decide)
    obtain ⟨hs, hn, -⟩ := id hB
    obtain ⟨hn1, hn2⟩ := id hn
    have hr := mt_rd_or hs
    have hlb := mt_li_bd hs hk
    have hcb := mt_2rd hs hn (mt_cdb (u := u) (v := v) hn hk)
    have hli := mt_li_i (j := a) hs hk ⟨by omega, by omega⟩
    have m1 := mt_mod hn1 (mt_cd n k u v / n)
    have m2 := mt_mod hn1 (mt_cd n k u v)
    have hX := mt_x_bd (s := s) (k := a) (x := mt_cd n k u v / n % n) (y := mt_cd n k u v % n) 12 (by omega) (by omega)
    have hY := mt_y_bd (s := s) (k := a) (x := mt_cd n k u v / n % n) (y := mt_cd n k u v % n) 12 (by omega) (by omega)
    have hlp := mt_lp_bd (j := a) hs hk ⟨by omega, by omega⟩
    refine pg_ca 3 (L := []) (Mc := pm_T_round) (as := [.inr (.inr 0)]) (h0 := rm g s n) (pc := 48) (lv := [(0, .inr (.inr 0)), (1, .inl k), (2, .inl u), (3, .inl v), (4, .inl w), (5, .inl (mt_cd n k u v)), (6, .inl f), (7, .inl a)]) (rest := [.inl 2, .inl a]) rfl trivial (re_round (g := g) (n := n) hs) ?_
    intro r_1 h_1 e_1; rw [e_1.1, e_1.2]
    refine pg_br 1 (L := []) (P := pg_inR a ∧ pg_inR (2 * (mt_rd s))) (c := (2 * (mt_rd s)) ≤ a) (st1 := (106, [(0, .inr (.inr 0)), (1, .inl k), (2, .inl u), (3, .inl v), (4, .inl w), (5, .inl (mt_cd n k u v)), (6, .inl f), (7, .inl a)], [], rm g s n)) (st2 := (52, [(0, .inr (.inr 0)), (1, .inl k), (2, .inl u), (3, .inl v), (4, .inl w), (5, .inl (mt_cd n k u v)), (6, .inl f), (7, .inl a)], [], rm g s n)) rfl trivial ⟨⟨by omega, by omega⟩, ⟨by omega, by omega⟩⟩ (fun c_49_2 => ?_) (fun c_49_2 => ?_)
    · exact (by exfalso; omega)
    · refine pg_ca 3 (L := []) (Mc := pm_T_linear) (as := [.inr (.inr 0), .inl k, .inl a]) (h0 := rm g s n) (pc := 59) (lv := [(0, .inr (.inr 0)), (1, .inl k), (2, .inl u), (3, .inl v), (4, .inl w), (5, .inl (mt_cd n k u v)), (6, .inl f), (7, .inl a)]) (rest := []) rfl trivial (re_linear (g := g) hB k a ⟨by omega, by omega⟩ ⟨by omega, by omega⟩) ?_
      intro r_1 h_1 e_1; obtain ⟨er_, g2, eh_, ef2⟩ := e_1; rw [er_, eh_]; have hB2 := rm_B_fr hB ef2 (by decide)
      refine pg_br 0 (L := []) (P := pg_inR (mt_lp s k a)) (c := ¬ (mt_lp s k a) = 0) (st1 := (100, [(0, .inr (.inr 0)), (1, .inl k), (2, .inl u), (3, .inl v), (4, .inl w), (5, .inl (mt_cd n k u v)), (6, .inl f), (7, .inl a)], [], rm g2 s n)) (st2 := (62, [(0, .inr (.inr 0)), (1, .inl k), (2, .inl u), (3, .inl v), (4, .inl w), (5, .inl (mt_cd n k u v)), (6, .inl f), (7, .inl a)], [], rm g2 s n)) rfl trivial ⟨by omega, by omega⟩ (fun c_59_3 => ?_) (fun c_59_3 => ?_)
      · refine pg_go 2 (L := []) (st' := (41, [(0, .inr (.inr 0)), (1, .inl k), (2, .inl u), (3, .inl v), (4, .inl w), (5, .inl (mt_cd n k u v)), (6, .inl f), (7, .inl (a + 1))], [], rm g2 s n)) rfl trivial ?_
        refine ih _ _ _ (by omega) (by omega) (rf_tr hf ef2 (by decide) (by decide)) ?_
        first | (rw [hF]; split <;> split <;> first | rfl | omega) | (rw [if_pos (by omega), show a = mt_li s k by omega])
      · refine pg_ca 4 (L := []) (Mc := pm_T_uOf) (as := [.inr (.inr 0), .inl (mt_cd n k u v)]) (h0 := rm g2 s n) (pc := 71) (lv := [(0, .inr (.inr 0)), (1, .inl k), (2, .inl u), (3, .inl v), (4, .inl w), (5, .inl (mt_cd n k u v)), (6, .inl f), (7, .inl a)]) (rest := [.inl a, .inr (.inr 0)]) rfl trivial (re_uOf (g := g2) (s := s) hn (mt_cd n k u v) ⟨by omega, by omega⟩) ?_
        intro r_1 h_1 e_1; rw [e_1.1, e_1.2]
        refine pg_ca 3 (L := [pg_inR ((mt_cd n k u v) / n % n)]) (Mc := pm_T_vOf) (as := [.inr (.inr 0), .inl (mt_cd n k u v)]) (h0 := rm g2 s n) (pc := 78) (lv := [(0, .inr (.inr 0)), (1, .inl k), (2, .inl u), (3, .inl v), (4, .inl w), (5, .inl (mt_cd n k u v)), (6, .inl f), (7, .inl a)]) (rest := [.inr (.inl ((mt_cd n k u v) / n % n)), .inl a, .inr (.inr 0)]) rfl ⟨by omega, by omega⟩ (re_vOf (g := g2) (s := s) hn (mt_cd n k u v) ⟨by omega, by omega⟩) ?_
        intro r_1 h_1 e_1; rw [e_1.1, e_1.2]
        refine pg_ca 1 (L := [pg_inR ((mt_cd n k u v) % n)]) (Mc := pm_T_map) (as := [.inr (.inr 0), .inl a, .inr (.inl ((mt_cd n k u v) / n % n)), .inr (.inl ((mt_cd n k u v) % n))]) (h0 := rm g2 s n) (pc := 82) (lv := [(0, .inr (.inr 0)), (1, .inl k), (2, .inl u), (3, .inl v), (4, .inl w), (5, .inl (mt_cd n k u v)), (6, .inl f), (7, .inl a)]) (rest := []) rfl ⟨by omega, by omega⟩ (re_map (g := g2) hB2 a ((mt_cd n k u v) / n % n) ((mt_cd n k u v) % n) ⟨by omega, by omega⟩) ?_
        intro r_1 h_1 e_1; rw [e_1.1, e_1.2]
        refine pg_ca 8 (L := []) (Mc := pm_T_moveOf) (as := [.inr (.inr 0), .inl a, .inr (.inl (-(mt_x s a ((mt_cd n k u v) / n % n) ((mt_cd n k u v) % n)))), .inr (.inl (-(mt_y s a ((mt_cd n k u v) / n % n) ((mt_cd n k u v) % n))))]) (h0 := rm (pg_up (pg_up g2 0 15 (mt_x s a ((mt_cd n k u v) / n % n) ((mt_cd n k u v) % n))) 0 16 (mt_y s a ((mt_cd n k u v) / n % n) ((mt_cd n k u v) % n))) s n) (pc := 98) (lv := [(0, .inr (.inr 0)), (1, .inl k), (2, .inl u), (3, .inl v), (4, .inl w), (5, .inl (mt_cd n k u v)), (6, .inl f), (7, .inl a)]) (rest := []) rfl trivial (re_moveOf (g := (pg_up (pg_up g2 0 15 (mt_x s a ((mt_cd n k u v) / n % n) ((mt_cd n k u v) % n))) 0 16 (mt_y s a ((mt_cd n k u v) / n % n) ((mt_cd n k u v) % n)))) (s := s) hn a (-(mt_x s a ((mt_cd n k u v) / n % n) ((mt_cd n k u v) % n))) (-(mt_y s a ((mt_cd n k u v) / n % n) ((mt_cd n k u v) % n))) ⟨by omega, by omega⟩ ⟨by omega, by omega⟩) ?_
        intro r_1 h_1 e_1; rw [e_1.1, e_1.2]
        refine pg_go 3 (L := []) (st' := (41, [(0, .inr (.inr 0)), (1, .inl k), (2, .inl u), (3, .inl v), (4, .inl w), (5, .inl (mt_cd n k u v)), (6, .inl (mt_cd n a (-(mt_x s a ((mt_cd n k u v) / n % n) ((mt_cd n k u v) % n))) (-(mt_y s a ((mt_cd n k u v) / n % n) ((mt_cd n k u v) % n))))), (7, .inl (a + 1))], [], rm (pg_up (pg_up g2 0 15 (mt_x s a ((mt_cd n k u v) / n % n) ((mt_cd n k u v) % n))) 0 16 (mt_y s a ((mt_cd n k u v) / n % n) ((mt_cd n k u v) % n))) s n)) rfl trivial ?_
        refine ih _ _ _ (by omega) (by omega) (rf_0 (rf_0 (rf_tr hf ef2 (by decide) (by decide)) (by decide) _) (by decide) _) ?_
        first | (rw [hF]; split <;> split <;> first | rfl | omega) | (rw [if_pos (by omega), show a = mt_li s k by omega])
set_option maxHeartbeats 4000000 in
theorem re_back {g : pg_H} {s n : Int} (hB : rm_B g s n) (k : Int) (hk : pg_inR k) (u : Int) (hu : pg_inR u) (v : Int) (hv : pg_inR v) (w : Int) (hw : pg_inR w) : pg_Sem false pm_T_back [.inr (.inr 0), .inl k, .inl u, .inl v, .inl w] (rm g s n) (fun r h' => r = some (.inl (if (0 ≤ k ∧ k < 2 * mt_rd s) ∧ 0 ≤ w ∧ w ≤ 2 then (if w = 0 then mt_iv s n (mt_cd n k u v) / (n * n) else if w = 1 then mt_iv s n (mt_cd n k u v) / n % n else mt_iv s n (mt_cd n k u v) % n) else -2)) ∧ ∃ g', h' = rm g' s n ∧ rf [] [15, 16] g g') := by
  obtain ⟨hs, hn, hT⟩ := id hB
  obtain ⟨hn1, hn2⟩ := id hn
  have hr := mt_rd_or hs
  obtain ⟨k1, k2⟩ := hk
  obtain ⟨u1, u2⟩ := hu
  obtain ⟨v1, v2⟩ := hv
  obtain ⟨w1, w2⟩ := hw
  refine pg_Sem_of pm_T_back_f rfl ?_
  refine pg_ca 2 (L := []) (Mc := pm_T_isK) (as := [.inr (.inr 0), .inl k]) (h0 := rm g s n) (pc := 5) (lv := [(0, .inr (.inr 0)), (1, .inl k), (2, .inl u), (3, .inl v), (4, .inl w)]) (rest := []) rfl trivial (re_isK (g := g) (n := n) hs k ⟨by omega, by omega⟩) ?_
  intro r_1 h_1 e_1; rw [e_1.1, e_1.2]
  have hik_2 : ((if 0 ≤ k ∧ k < 2 * mt_rd s then (1 : Int) else 0) = 1 ∧ (0 ≤ k ∧ k < 2 * mt_rd s)) ∨ ((if 0 ≤ k ∧ k < 2 * mt_rd s then (1 : Int) else 0) = 0 ∧ ¬ (0 ≤ k ∧ k < 2 * mt_rd s)) := by split <;> simp_all
  refine pg_br 0 (L := []) (P := pg_inR (if 0 ≤ k ∧ k < 2 * mt_rd s then 1 else 0)) (c := (if 0 ≤ k ∧ k < 2 * mt_rd s then 1 else 0) = 0) (st1 := (21, [(0, .inr (.inr 0)), (1, .inl k), (2, .inl u), (3, .inl v), (4, .inl w)], [], rm g s n)) (st2 := (8, [(0, .inr (.inr 0)), (1, .inl k), (2, .inl u), (3, .inl v), (4, .inl w)], [], rm g s n)) rfl trivial ⟨by omega, by omega⟩ (fun c_5_1 => ?_) (fun c_5_1 => ?_)
  · refine pg_re 1 (L := []) (r := some (.inl (-2))) (h0 := rm g s n) rfl trivial ?_
    refine ⟨?_, _, rfl, rf_rf _ _ _⟩
    rw [if_neg (show ¬ ((0 ≤ k ∧ k < 2 * mt_rd s) ∧ 0 ≤ w ∧ w ≤ 2) by omega)]
  · refine pg_ca 4 (L := [pg_inR w]) (Mc := pm_T_isIn) (as := [.inr (.inl w), .inr (.inl 0), .inr (.inl 2)]) (h0 := rm g s n) (pc := 18) (lv := [(0, .inr (.inr 0)), (1, .inl k), (2, .inl u), (3, .inl v), (4, .inl w)]) (rest := []) rfl ⟨by omega, by omega⟩ (re_isIn (rm g s n) w 0 2 ⟨by omega, by omega⟩ ⟨by omega, by omega⟩ ⟨by omega, by omega⟩) ?_
    intro r_1 h_1 e_1; rw [e_1.1, e_1.2]
    have hin_15 : ((if 0 ≤ w ∧ w ≤ 2 then (1 : Int) else 0) = 1 ∧ (0 ≤ w ∧ w ≤ 2)) ∨ ((if 0 ≤ w ∧ w ≤ 2 then (1 : Int) else 0) = 0 ∧ ¬ (0 ≤ w ∧ w ≤ 2)) := by split <;> simp_all
    refine pg_br 0 (L := []) (P := pg_inR (if 0 ≤ w ∧ w ≤ 2 then 1 else 0)) (c := ¬ (if 0 ≤ w ∧ w ≤ 2 then 1 else 0) = 0) (st1 := (24, [(0, .inr (.inr 0)), (1, .inl k), (2, .inl u), (3, .inl v), (4, .inl w)], [], rm g s n)) (st2 := (21, [(0, .inr (.inr 0)), (1, .inl k), (2, .inl u), (3, .inl v), (4, .inl w)], [], rm g s n)) rfl trivial ⟨by omega, by omega⟩ (fun c_18_2 => ?_) (fun c_18_2 => ?_)
    · refine pg_ca 6 (L := [pg_inR u, pg_inR v]) (Mc := pm_T_moveOf) (as := [.inr (.inr 0), .inl k, .inr (.inl u), .inr (.inl v)]) (h0 := rm g s n) (pc := 33) (lv := [(0, .inr (.inr 0)), (1, .inl k), (2, .inl u), (3, .inl v), (4, .inl w)]) (rest := []) rfl ⟨⟨by omega, by omega⟩, ⟨by omega, by omega⟩⟩ (re_moveOf (g := g) (s := s) hn k u v ⟨by omega, by omega⟩ ⟨by omega, by omega⟩) ?_
      intro r_1 h_1 e_1; rw [e_1.1, e_1.2]
      refine pg_go 5 (L := []) (st' := (41, [(0, .inr (.inr 0)), (1, .inl k), (2, .inl u), (3, .inl v), (4, .inl w), (5, .inl (mt_cd n k u v)), (6, .inl (-1)), (7, .inl 0)], [], rm g s n)) rfl trivial ?_
      rw [if_pos (show (0 ≤ k ∧ k < 2 * mt_rd s) ∧ 0 ≤ w ∧ w ≤ 2 by omega)]
      have hlb := mt_li_bd (k := k) hs (by omega)
      refine re_back_l hB (k := k) (u := u) (v := v) (w := w) (by omega) (by omega) (2 * mt_rd s).toNat g _ _ (by omega) (by omega) (rf_rf _ _ _) ?_
      rw [if_neg (by omega)]
    · refine pg_re 1 (L := []) (r := some (.inl (-2))) (h0 := rm g s n) rfl trivial ?_
      refine ⟨?_, _, rfl, rf_rf _ _ _⟩
      rw [if_neg (show ¬ ((0 ≤ k ∧ k < 2 * mt_rd s) ∧ 0 ≤ w ∧ w ≤ 2) by omega)]
