/-! Moves: the rest -/
theorem cm_B_up {h : pg_H} {s n : Int} {q i : Nat} {z : Int} (hB : cm_B h s n) (h4 : q ≠ 4) (h5 : q ≠ 5) : cm_B (pg_up h q i z) s n := by
  obtain ⟨hs, hn, e1, e2, e3, e5⟩ := hB
  refine ⟨hs, hn, ?_, ?_, ?_, fun j hj => ?_⟩
  · rw [pg_up_n h i z (fun e => h4 e.symm)]; exact e1
  · rw [pg_up_n h i z (fun e => h4 e.symm)]; exact e2
  · rw [pg_up_n h i z (fun e => h4 e.symm)]; exact e3
  · rw [pg_up_n h i z (fun e => h5 e.symm)]; exact e5 j hj
theorem mt_e_bd (s : Int) (j : Nat) : mt_e s j = -1 ∨ mt_e s j = 0 ∨ mt_e s j = 1 := by
  unfold mt_e
  split
  · by_cases hj : j < 32
    · have h : ∀ j, j < 32 → (mt_q.getD j 0 = -1 ∨ mt_q.getD j 0 = 0 ∨ mt_q.getD j 0 = 1) := by decide
      exact h j hj
    · right; left
      rw [List.getD_eq_getElem?_getD, List.getElem?_eq_none (by simp [mt_q]; omega)]
      rfl
  · by_cases hj : j < 48
    · have h : ∀ j, j < 48 → (mt_t.getD j 0 = -1 ∨ mt_t.getD j 0 = 0 ∨ mt_t.getD j 0 = 1) := by decide
      exact h j hj
    · right; left
      rw [List.getD_eq_getElem?_getD, List.getElem?_eq_none (by simp [mt_t]; omega)]
      rfl
theorem mt_ex_bd {s : Int} {j : Nat} {x m : Int} (hx : -m ≤ x ∧ x ≤ m) : -m ≤ mt_e s j * x ∧ mt_e s j * x ≤ m := by
  rcases mt_e_bd s j with e | e | e <;> rw [e] <;> omega
theorem mt_x_bd {s k x y : Int} (m : Int) (hx : -m ≤ x ∧ x ≤ m) (hy : -m ≤ y ∧ y ≤ m) : -(2 * m) ≤ mt_x s k x y ∧ mt_x s k x y ≤ 2 * m := by
  have h1 := mt_ex_bd (s := s) (j := (4 * k).toNat) hx
  have h2 := mt_ex_bd (s := s) (j := (4 * k + 1).toNat) hy
  unfold mt_x
  omega
theorem mt_y_bd {s k x y : Int} (m : Int) (hx : -m ≤ x ∧ x ≤ m) (hy : -m ≤ y ∧ y ≤ m) : -(2 * m) ≤ mt_y s k x y ∧ mt_y s k x y ≤ 2 * m := by
  have h1 := mt_ex_bd (s := s) (j := (4 * k + 2).toNat) hx
  have h2 := mt_ex_bd (s := s) (j := (4 * k + 3).toNat) hy
  unfold mt_y
  omega
theorem mt_nn {n : Int} (h1 : 1 ≤ n) (h2 : n ≤ 12) : n ≤ n * n ∧ n * n ≤ 144 ∧ n * n ≤ 12 * n := by
  have : n = 1 ∨ n = 2 ∨ n = 3 ∨ n = 4 ∨ n = 5 ∨ n = 6 ∨ n = 7 ∨ n = 8 ∨ n = 9 ∨ n = 10 ∨ n = 11 ∨ n = 12 := by omega
  rcases this with rfl | rfl | rfl | rfl | rfl | rfl | rfl | rfl | rfl | rfl | rfl | rfl <;> decide
theorem mt_mod {n : Int} (h1 : 1 ≤ n) (x : Int) : 0 ≤ x % n ∧ x % n < n := ⟨Int.emod_nonneg x (by omega), Int.emod_lt_of_pos x (by omega)⟩
/-- a point's number -/
def mt_pt (n x y : Int) : Int := y * n + x
theorem mt_pt_bd {n x y : Int} (h1 : 1 ≤ n) (h2 : n ≤ 12) (hx : 0 ≤ x ∧ x < n) (hy : 0 ≤ y ∧ y < n) : 0 ≤ mt_pt n x y ∧ mt_pt n x y < n * n ∧ mt_pt n x y < 144 := by
  unfold mt_pt
  have : n = 1 ∨ n = 2 ∨ n = 3 ∨ n = 4 ∨ n = 5 ∨ n = 6 ∨ n = 7 ∨ n = 8 ∨ n = 9 ∨ n = 10 ∨ n = 11 ∨ n = 12 := by omega
  rcases this with rfl | rfl | rfl | rfl | rfl | rfl | rfl | rfl | rfl | rfl | rfl | rfl <;> omega
/-- where a move takes a point: its number -/
def mt_tg (s n k u v x y : Int) : Int := mt_pt n ((mt_x s k x y + u) % n) ((mt_y s k x y + v) % n)
theorem mt_tg_bd {s n k u v x y : Int} (h1 : 1 ≤ n) (h2 : n ≤ 12) : 0 ≤ mt_tg s n k u v x y ∧ mt_tg s n k u v x y < n * n ∧ mt_tg s n k u v x y < 144 := mt_pt_bd h1 h2 (mt_mod h1 _) (mt_mod h1 _)
/-- a move's number -/
def mt_cd (n k u v : Int) : Int := (k * n + u % n) * n + v % n
theorem mt_mul_bd {k n m : Int} (hk : 0 ≤ k ∧ k < m) (h1 : 1 ≤ n) (h2 : n ≤ 12) : 0 ≤ k * n ∧ k * n ≤ m * n - n ∧ k * n ≤ 12 * k := by
  have : n = 1 ∨ n = 2 ∨ n = 3 ∨ n = 4 ∨ n = 5 ∨ n = 6 ∨ n = 7 ∨ n = 8 ∨ n = 9 ∨ n = 10 ∨ n = 11 ∨ n = 12 := by omega
  rcases this with rfl | rfl | rfl | rfl | rfl | rfl | rfl | rfl | rfl | rfl | rfl | rfl <;> omega
theorem mt_cd_bd {n k u v : Int} (h1 : 1 ≤ n) (h2 : n ≤ 12) (hk : 0 ≤ k ∧ k < 12) : 0 ≤ mt_cd n k u v ∧ mt_cd n k u v < 1728 := by
  unfold mt_cd
  have hu := mt_mod h1 u
  have hv := mt_mod h1 v
  generalize u % n = a at *
  generalize v % n = c at *
  have : n = 1 ∨ n = 2 ∨ n = 3 ∨ n = 4 ∨ n = 5 ∨ n = 6 ∨ n = 7 ∨ n = 8 ∨ n = 9 ∨ n = 10 ∨ n = 11 ∨ n = 12 := by omega
  rcases this with rfl | rfl | rfl | rfl | rfl | rfl | rfl | rfl | rfl | rfl | rfl | rfl <;> omega
/-- the LINEAR that is two of them, as the class counts it -/
def mt_lp (s k j : Int) : Int :=
  let d := mt_rd s
  let o := if d ≤ k then k - d else k
  let i := if d ≤ j then j - d else j
  let t := o + (if d ≤ k then d - i else i)
  let f := if d ≤ t then t - d else t
  if (d ≤ k ↔ d ≤ j) then f else f + d
theorem cm_point {h : pg_H} {s n : Int} (hB : cm_B h s n) (x y : Int) (hx : pg_inR x) (hy : pg_inR y) : pg_Sem true pm_M_point [.inr (.inr 4), .inl x, .inl y] h (fun r h' => r = some (.inl (mt_pt n (x % n) (y % n))) ∧ h' = h) := by
  obtain ⟨hs, ⟨hn1, hn2⟩, e1, e2, e3, e5⟩ := id hB
  have hr := mt_rd_or hs
  obtain ⟨hx1, hx2⟩ := hx
  obtain ⟨hy1, hy2⟩ := hy
  refine pg_Sem_of pm_M_point_f rfl ?_
  refine pg_ca 2 (L := []) (Mc := pm_M_wrap) (as := [.inr (.inr 4), .inl y]) (h0 := h) (pc := 5) (lv := [(0, .inr (.inr 4)), (1, .inl x), (2, .inl y)]) (rest := []) rfl trivial (cm_wrap hB y ⟨by omega, by omega⟩) ?_
  intro r_1 h_1 e_1; rw [e_1.1, e_1.2]
  refine pg_ca 5 (L := []) (Mc := pm_M_wrap) (as := [.inr (.inr 4), .inl x]) (h0 := h) (pc := 15) (lv := [(0, .inr (.inr 4)), (1, .inl x), (2, .inl y)]) (rest := [.inl ((y % n) * (h 4 2))]) rfl trivial (cm_wrap hB x ⟨by omega, by omega⟩) ?_
  intro r_1 h_1 e_1; rw [e_1.1, e_1.2]
  refine pg_re 1 (L := []) (r := some (.inl (((y % n) * (h 4 2)) + (x % n)))) (h0 := h) rfl trivial ?_
  refine ⟨?_, rfl⟩
  rw [e2]
  rfl
theorem cm_target {h : pg_H} {s n : Int} (hB : cm_B h s n) (k u v x y : Int) (hk : 0 ≤ k ∧ k < 2 * mt_rd s) (hu : -100000 ≤ u ∧ u ≤ 100000) (hv : -100000 ≤ v ∧ v ≤ 100000) (hx : -100000 ≤ x ∧ x ≤ 100000) (hy : -100000 ≤ y ∧ y ≤ 100000) : pg_Sem true pm_M_target [.inr (.inr 4), .inl k, .inl u, .inl v, .inl x, .inl y] h (fun r h' => r = some (.inl (mt_tg s n k u v x y)) ∧ h' = h) := by
  obtain ⟨hs, ⟨hn1, hn2⟩, e1, e2, e3, e5⟩ := id hB
  have hr := mt_rd_or hs
  have hX := mt_x_bd (s := s) (k := k) 100000 hx hy
  have hY := mt_y_bd (s := s) (k := k) 100000 hx hy
  refine pg_Sem_of pm_M_target_f rfl ?_
  refine pg_br 3 (L := []) (P := pg_inR (h 4 2) ∧ pg_inR 1) (c := 1 ≤ (h 4 2)) (st1 := (10, [(0, .inr (.inr 4)), (1, .inl k), (2, .inl u), (3, .inl v), (4, .inl x), (5, .inl y)], [], h)) (st2 := (8, [(0, .inr (.inr 4)), (1, .inl k), (2, .inl u), (3, .inl v), (4, .inl x), (5, .inl y)], [], h)) rfl trivial ⟨⟨by omega, by omega⟩, ⟨by decide, by decide⟩⟩ (fun c_5_1 => ?_) (fun c_5_1 => ?_)
  · refine pg_ca 4 (L := []) (Mc := pm_M_linearX) (as := [.inr (.inr 4), .inl k, .inl x, .inl y]) (h0 := h) (pc := 19) (lv := [(0, .inr (.inr 4)), (1, .inl k), (2, .inl u), (3, .inl v), (4, .inl x), (5, .inl y)]) (rest := []) rfl trivial (cm_linearX hB k x y ⟨by omega, by omega⟩) ?_
    intro r_1 h_1 e_1; rw [e_1.1, e_1.2]
    refine pg_ca 4 (L := []) (Mc := pm_J_floorMod) (as := [.inl ((mt_x s k x y) + u), .inl (h 4 2)]) (h0 := h) (pc := 28) (lv := [(0, .inr (.inr 4)), (1, .inl k), (2, .inl u), (3, .inl v), (4, .inl x), (5, .inl y)]) (rest := []) rfl trivial (cj_fm h ((mt_x s k x y) + u) (h 4 2) ⟨by omega, by omega⟩ ⟨by omega, by omega⟩) ?_
    intro r_1 h_1 e_1; rw [e_1.1, e_1.2]
    refine pg_ca 5 (L := []) (Mc := pm_M_linearY) (as := [.inr (.inr 4), .inl k, .inl x, .inl y]) (h0 := h) (pc := 39) (lv := [(0, .inr (.inr 4)), (1, .inl k), (2, .inl u), (3, .inl v), (4, .inl x), (5, .inl y), (6, .inl (((mt_x s k x y) + u) % (h 4 2)))]) (rest := []) rfl trivial (cm_linearY hB k x y ⟨by omega, by omega⟩) ?_
    intro r_1 h_1 e_1; rw [e_1.1, e_1.2]
    refine pg_ca 4 (L := []) (Mc := pm_J_floorMod) (as := [.inl ((mt_y s k x y) + v), .inl (h 4 2)]) (h0 := h) (pc := 48) (lv := [(0, .inr (.inr 4)), (1, .inl k), (2, .inl u), (3, .inl v), (4, .inl x), (5, .inl y), (6, .inl (((mt_x s k x y) + u) % (h 4 2)))]) (rest := []) rfl trivial (cj_fm h ((mt_y s k x y) + v) (h 4 2) ⟨by omega, by omega⟩ ⟨by omega, by omega⟩) ?_
    intro r_1 h_1 e_1; rw [e_1.1, e_1.2]
    refine pg_re 5 (L := []) (r := some (.inl (((((mt_y s k x y) + v) % (h 4 2)) * (h 4 2)) + (((mt_x s k x y) + u) % (h 4 2))))) (h0 := h) rfl trivial ?_
    refine ⟨?_, rfl⟩
    rw [e2]
    rfl
  · exact (by exfalso; omega)
theorem cm_code {h : pg_H} {s n : Int} (hB : cm_B h s n) (k u v : Int) (hu : pg_inR u) (hv : pg_inR v) : pg_Sem true pm_M_code [.inr (.inr 4), .inl k, .inl u, .inl v] h (fun r h' => r = some (.inl (mt_cd n k u v)) ∧ h' = h) := by
  obtain ⟨hs, ⟨hn1, hn2⟩, e1, e2, e3, e5⟩ := id hB
  have hr := mt_rd_or hs
  obtain ⟨hu1, hu2⟩ := hu
  obtain ⟨hv1, hv2⟩ := hv
  refine pg_Sem_of pm_M_code_f rfl ?_
  refine pg_ca 6 (L := []) (Mc := pm_M_wrap) (as := [.inr (.inr 4), .inl u]) (h0 := h) (pc := 11) (lv := [(0, .inr (.inr 4)), (1, .inl k), (2, .inl u), (3, .inl v)]) (rest := [.inl (k * (h 4 2))]) rfl trivial (cm_wrap hB u ⟨by omega, by omega⟩) ?_
  intro r_1 h_1 e_1; rw [e_1.1, e_1.2]
  refine pg_ca 6 (L := []) (Mc := pm_M_wrap) (as := [.inr (.inr 4), .inl v]) (h0 := h) (pc := 22) (lv := [(0, .inr (.inr 4)), (1, .inl k), (2, .inl u), (3, .inl v)]) (rest := [.inl (((k * (h 4 2)) + (u % n)) * (h 4 2))]) rfl trivial (cm_wrap hB v ⟨by omega, by omega⟩) ?_
  intro r_1 h_1 e_1; rw [e_1.1, e_1.2]
  refine pg_re 1 (L := []) (r := some (.inl ((((k * (h 4 2)) + (u % n)) * (h 4 2)) + (v % n)))) (h0 := h) rfl trivial ?_
  refine ⟨?_, rfl⟩
  rw [e2]
  rfl
theorem cm_part {h : pg_H} {s n : Int} (hB : cm_B h s n) (cd w : Int) (hc : 0 ≤ cd ∧ cd < 1000000) (hw : pg_inR w) : pg_Sem true pm_M_part [.inr (.inr 4), .inl cd, .inl w] h (fun r h' => r = some (.inl (if w = 0 then cd / (n * n) else if w = 1 then cd / n % n else cd % n)) ∧ h' = h) := by
  obtain ⟨hs, ⟨hn1, hn2⟩, e1, e2, e3, e5⟩ := id hB
  have hr := mt_rd_or hs
  obtain ⟨hw1, hw2⟩ := hw
  have hnn := mt_nn hn1 hn2
  have hq : h 4 2 * h 4 2 = n * n := by rw [e2]
  have hdn : 0 ≤ Int.tdiv cd (h 4 2) ∧ Int.tdiv cd (h 4 2) ≤ cd := by
    rw [pg_tdiv_nn hc.1, e2]
    exact ⟨Int.ediv_nonneg hc.1 (by omega), Int.ediv_le_self n hc.1⟩
  refine pg_Sem_of pm_M_part_f rfl ?_
  refine pg_br 3 (L := []) (P := pg_inR (h 4 2) ∧ pg_inR 1) (c := 1 ≤ (h 4 2)) (st1 := (10, [(0, .inr (.inr 4)), (1, .inl cd), (2, .inl w)], [], h)) (st2 := (8, [(0, .inr (.inr 4)), (1, .inl cd), (2, .inl w)], [], h)) rfl trivial ⟨⟨by omega, by omega⟩, ⟨by decide, by decide⟩⟩ (fun c_5_1 => ?_) (fun c_5_1 => ?_)
  · refine pg_br 1 (L := []) (P := pg_inR w) (c := ¬ w = 0) (st1 := (26, [(0, .inr (.inr 4)), (1, .inl cd), (2, .inl w)], [], h)) (st2 := (14, [(0, .inr (.inr 4)), (1, .inl cd), (2, .inl w)], [], h)) rfl trivial ⟨by omega, by omega⟩ (fun c_11_2 => ?_) (fun c_11_2 => ?_)
    · refine pg_br 2 (L := []) (P := pg_inR w ∧ pg_inR 1) (c := ¬ w = 1) (st1 := (45, [(0, .inr (.inr 4)), (1, .inl cd), (2, .inl w)], [], h)) (st2 := (31, [(0, .inr (.inr 4)), (1, .inl cd), (2, .inl w)], [], h)) rfl trivial ⟨⟨by omega, by omega⟩, ⟨by decide, by decide⟩⟩ (fun c_28_3 => ?_) (fun c_28_3 => ?_)
      · refine pg_re 4 (L := [(h 4 2) ≠ 0 ∧ pg_inR cd ∧ pg_inR (h 4 2)]) (r := some (.inl (Int.tmod cd (h 4 2)))) (h0 := h) rfl ⟨by omega, ⟨by omega, by omega⟩, ⟨by omega, by omega⟩⟩ ?_
        refine ⟨?_, rfl⟩
        first | rw [if_pos (by omega), pg_tdiv_nn hc.1, e2] | rw [if_neg (by omega), if_pos (by omega), pg_tmod_nn hdn.1, pg_tdiv_nn hc.1, e2] | rw [if_neg (by omega), if_neg (by omega), pg_tmod_nn hc.1, e2]
      · refine pg_re 8 (L := [(h 4 2) ≠ 0 ∧ pg_inR cd ∧ pg_inR (h 4 2), (h 4 2) ≠ 0 ∧ pg_inR (Int.tdiv cd (h 4 2)) ∧ pg_inR (h 4 2)]) (r := some (.inl (Int.tmod (Int.tdiv cd (h 4 2)) (h 4 2)))) (h0 := h) rfl ⟨⟨by omega, ⟨by omega, by omega⟩, ⟨by omega, by omega⟩⟩, ⟨by omega, ⟨by omega, by omega⟩, ⟨by omega, by omega⟩⟩⟩ ?_
        refine ⟨?_, rfl⟩
        first | rw [if_pos (by omega), pg_tdiv_nn hc.1, e2] | rw [if_neg (by omega), if_pos (by omega), pg_tmod_nn hdn.1, pg_tdiv_nn hc.1, e2] | rw [if_neg (by omega), if_neg (by omega), pg_tmod_nn hc.1, e2]
    · refine pg_re 7 (L := [((h 4 2) * (h 4 2)) ≠ 0 ∧ pg_inR cd ∧ pg_inR ((h 4 2) * (h 4 2))]) (r := some (.inl (Int.tdiv cd ((h 4 2) * (h 4 2))))) (h0 := h) rfl ⟨by omega, ⟨by omega, by omega⟩, ⟨by omega, by omega⟩⟩ ?_
      refine ⟨?_, rfl⟩
      first | rw [if_pos (by omega), pg_tdiv_nn hc.1, e2] | rw [if_neg (by omega), if_pos (by omega), pg_tmod_nn hdn.1, pg_tdiv_nn hc.1, e2] | rw [if_neg (by omega), if_neg (by omega), pg_tmod_nn hc.1, e2]
  · exact (by exfalso; omega)
set_option maxHeartbeats 4000000 in
theorem cm_linearProduct {h : pg_H} {s n : Int} (hB : cm_B h s n) (k j : Int) (hk : 0 ≤ k ∧ k < 2 * mt_rd s) (hj : 0 ≤ j ∧ j < 2 * mt_rd s) : pg_Sem true pm_M_linearProduct [.inr (.inr 4), .inl k, .inl j] h (fun r h' => r = some (.inl (mt_lp s k j)) ∧ h' = h) := by
  obtain ⟨hs, ⟨hn1, hn2⟩, e1, e2, e3, e5⟩ := id hB
  have hr := mt_rd_or hs
  refine pg_Sem_of pm_M_linearProduct_f rfl ?_
  refine pg_br 3 (L := []) (P := pg_inR k ∧ pg_inR (h 4 3)) (c := k < (h 4 3)) (st1 := (12, [(0, .inr (.inr 4)), (1, .inl k), (2, .inl j)], [], h)) (st2 := (8, [(0, .inr (.inr 4)), (1, .inl k), (2, .inl j)], [], h)) rfl trivial ⟨⟨by omega, by omega⟩, ⟨by omega, by omega⟩⟩ (fun c_5_1 => ?_) (fun c_5_1 => ?_)
  · refine pg_br 5 (L := []) (P := pg_inR j ∧ pg_inR (h 4 3)) (c := j < (h 4 3)) (st1 := (26, [(0, .inr (.inr 4)), (1, .inl k), (2, .inl j), (3, .inl 0)], [], h)) (st2 := (22, [(0, .inr (.inr 4)), (1, .inl k), (2, .inl j), (3, .inl 0)], [], h)) rfl trivial ⟨⟨by omega, by omega⟩, ⟨by omega, by omega⟩⟩ (fun c_19_2 => ?_) (fun c_19_2 => ?_)
    · refine pg_br 3 (L := []) (P := pg_inR 0) (c := 0 = 0) (st1 := (42, [(0, .inr (.inr 4)), (1, .inl k), (2, .inl j), (3, .inl 0), (4, .inl 0)], [], h)) (st2 := (33, [(0, .inr (.inr 4)), (1, .inl k), (2, .inl j), (3, .inl 0), (4, .inl 0)], [], h)) rfl trivial ⟨by decide, by decide⟩ (fun c_30_3 => ?_) (fun c_30_3 => ?_)
      · refine pg_br 3 (L := []) (P := pg_inR 0) (c := 0 = 0) (st1 := (59, [(0, .inr (.inr 4)), (1, .inl k), (2, .inl j), (3, .inl 0), (4, .inl 0), (5, .inl k)], [], h)) (st2 := (50, [(0, .inr (.inr 4)), (1, .inl k), (2, .inl j), (3, .inl 0), (4, .inl 0), (5, .inl k)], [], h)) rfl trivial ⟨by decide, by decide⟩ (fun c_47_4 => ?_) (fun c_47_4 => ?_)
        · refine pg_br 4 (L := []) (P := pg_inR 0) (c := 0 = 0) (st1 := (78, [(0, .inr (.inr 4)), (1, .inl k), (2, .inl j), (3, .inl 0), (4, .inl 0), (5, .inl k), (6, .inl j)], [.inl k], h)) (st2 := (68, [(0, .inr (.inr 4)), (1, .inl k), (2, .inl j), (3, .inl 0), (4, .inl 0), (5, .inl k), (6, .inl j)], [.inl k], h)) rfl trivial ⟨by decide, by decide⟩ (fun c_65_5 => ?_) (fun c_65_5 => ?_)
          · refine pg_br 6 (L := []) (P := pg_inR (k + j) ∧ pg_inR (h 4 3)) (c := (k + j) < (h 4 3)) (st1 := (102, [(0, .inr (.inr 4)), (1, .inl k), (2, .inl j), (3, .inl 0), (4, .inl 0), (5, .inl k), (6, .inl j), (7, .inl (k + j))], [], h)) (st2 := (92, [(0, .inr (.inr 4)), (1, .inl k), (2, .inl j), (3, .inl 0), (4, .inl 0), (5, .inl k), (6, .inl j), (7, .inl (k + j))], [], h)) rfl trivial ⟨⟨by omega, by omega⟩, ⟨by omega, by omega⟩⟩ (fun c_89_6 => ?_) (fun c_89_6 => ?_)
            · refine pg_br 4 (L := []) (P := pg_inR 0 ∧ pg_inR 0) (c := ¬ 0 = 0) (st1 := (117, [(0, .inr (.inr 4)), (1, .inl k), (2, .inl j), (3, .inl 0), (4, .inl 0), (5, .inl k), (6, .inl j), (7, .inl (k + j)), (8, .inl (k + j))], [], h)) (st2 := (112, [(0, .inr (.inr 4)), (1, .inl k), (2, .inl j), (3, .inl 0), (4, .inl 0), (5, .inl k), (6, .inl j), (7, .inl (k + j)), (8, .inl (k + j))], [], h)) rfl trivial ⟨⟨by decide, by decide⟩, ⟨by decide, by decide⟩⟩ (fun c_109_7 => ?_) (fun c_109_7 => ?_)
              · exact absurd c_109_7 (by decide)
              · refine pg_re 2 (L := []) (r := some (.inl (k + j))) (h0 := h) rfl trivial ?_
                refine ⟨?_, rfl⟩
                unfold mt_lp
                congr 2
                simp only [e3] at *
                repeat (split <;> try omega)
            · refine pg_br 8 (L := []) (P := pg_inR 0 ∧ pg_inR 0) (c := ¬ 0 = 0) (st1 := (117, [(0, .inr (.inr 4)), (1, .inl k), (2, .inl j), (3, .inl 0), (4, .inl 0), (5, .inl k), (6, .inl j), (7, .inl (k + j)), (8, .inl ((k + j) - (h 4 3)))], [], h)) (st2 := (112, [(0, .inr (.inr 4)), (1, .inl k), (2, .inl j), (3, .inl 0), (4, .inl 0), (5, .inl k), (6, .inl j), (7, .inl (k + j)), (8, .inl ((k + j) - (h 4 3)))], [], h)) rfl trivial ⟨⟨by decide, by decide⟩, ⟨by decide, by decide⟩⟩ (fun c_109_8 => ?_) (fun c_109_8 => ?_)
              · exact absurd c_109_8 (by decide)
              · refine pg_re 2 (L := []) (r := some (.inl ((k + j) - (h 4 3)))) (h0 := h) rfl trivial ?_
                refine ⟨?_, rfl⟩
                unfold mt_lp
                congr 2
                simp only [e3] at *
                repeat (split <;> try omega)
          · exact absurd c_65_5 (by decide)
        · exact absurd c_47_4 (by decide)
      · exact absurd c_30_3 (by decide)
    · refine pg_br 4 (L := []) (P := pg_inR 0) (c := 0 = 0) (st1 := (42, [(0, .inr (.inr 4)), (1, .inl k), (2, .inl j), (3, .inl 0), (4, .inl 1)], [], h)) (st2 := (33, [(0, .inr (.inr 4)), (1, .inl k), (2, .inl j), (3, .inl 0), (4, .inl 1)], [], h)) rfl trivial ⟨by decide, by decide⟩ (fun c_30_9 => ?_) (fun c_30_9 => ?_)
      · refine pg_br 3 (L := []) (P := pg_inR 1) (c := 1 = 0) (st1 := (59, [(0, .inr (.inr 4)), (1, .inl k), (2, .inl j), (3, .inl 0), (4, .inl 1), (5, .inl k)], [], h)) (st2 := (50, [(0, .inr (.inr 4)), (1, .inl k), (2, .inl j), (3, .inl 0), (4, .inl 1), (5, .inl k)], [], h)) rfl trivial ⟨by decide, by decide⟩ (fun c_47_10 => ?_) (fun c_47_10 => ?_)
        · exact absurd c_47_10 (by decide)
        · refine pg_br 8 (L := []) (P := pg_inR 0) (c := 0 = 0) (st1 := (78, [(0, .inr (.inr 4)), (1, .inl k), (2, .inl j), (3, .inl 0), (4, .inl 1), (5, .inl k), (6, .inl (j - (h 4 3)))], [.inl k], h)) (st2 := (68, [(0, .inr (.inr 4)), (1, .inl k), (2, .inl j), (3, .inl 0), (4, .inl 1), (5, .inl k), (6, .inl (j - (h 4 3)))], [.inl k], h)) rfl trivial ⟨by decide, by decide⟩ (fun c_65_11 => ?_) (fun c_65_11 => ?_)
          · refine pg_br 6 (L := []) (P := pg_inR (k + (j - (h 4 3))) ∧ pg_inR (h 4 3)) (c := (k + (j - (h 4 3))) < (h 4 3)) (st1 := (102, [(0, .inr (.inr 4)), (1, .inl k), (2, .inl j), (3, .inl 0), (4, .inl 1), (5, .inl k), (6, .inl (j - (h 4 3))), (7, .inl (k + (j - (h 4 3))))], [], h)) (st2 := (92, [(0, .inr (.inr 4)), (1, .inl k), (2, .inl j), (3, .inl 0), (4, .inl 1), (5, .inl k), (6, .inl (j - (h 4 3))), (7, .inl (k + (j - (h 4 3))))], [], h)) rfl trivial ⟨⟨by omega, by omega⟩, ⟨by omega, by omega⟩⟩ (fun c_89_12 => ?_) (fun c_89_12 => ?_)
            · refine pg_br 4 (L := []) (P := pg_inR 0 ∧ pg_inR 1) (c := ¬ 0 = 1) (st1 := (117, [(0, .inr (.inr 4)), (1, .inl k), (2, .inl j), (3, .inl 0), (4, .inl 1), (5, .inl k), (6, .inl (j - (h 4 3))), (7, .inl (k + (j - (h 4 3)))), (8, .inl (k + (j - (h 4 3))))], [], h)) (st2 := (112, [(0, .inr (.inr 4)), (1, .inl k), (2, .inl j), (3, .inl 0), (4, .inl 1), (5, .inl k), (6, .inl (j - (h 4 3))), (7, .inl (k + (j - (h 4 3)))), (8, .inl (k + (j - (h 4 3))))], [], h)) rfl trivial ⟨⟨by decide, by decide⟩, ⟨by decide, by decide⟩⟩ (fun c_109_13 => ?_) (fun c_109_13 => ?_)
              · refine pg_re 4 (L := []) (r := some (.inl ((k + (j - (h 4 3))) + (h 4 3)))) (h0 := h) rfl trivial ?_
                refine ⟨?_, rfl⟩
                unfold mt_lp
                congr 2
                simp only [e3] at *
                repeat (split <;> try omega)
              · exact absurd c_109_13 (by decide)
            · refine pg_br 8 (L := []) (P := pg_inR 0 ∧ pg_inR 1) (c := ¬ 0 = 1) (st1 := (117, [(0, .inr (.inr 4)), (1, .inl k), (2, .inl j), (3, .inl 0), (4, .inl 1), (5, .inl k), (6, .inl (j - (h 4 3))), (7, .inl (k + (j - (h 4 3)))), (8, .inl ((k + (j - (h 4 3))) - (h 4 3)))], [], h)) (st2 := (112, [(0, .inr (.inr 4)), (1, .inl k), (2, .inl j), (3, .inl 0), (4, .inl 1), (5, .inl k), (6, .inl (j - (h 4 3))), (7, .inl (k + (j - (h 4 3)))), (8, .inl ((k + (j - (h 4 3))) - (h 4 3)))], [], h)) rfl trivial ⟨⟨by decide, by decide⟩, ⟨by decide, by decide⟩⟩ (fun c_109_14 => ?_) (fun c_109_14 => ?_)
              · refine pg_re 4 (L := []) (r := some (.inl (((k + (j - (h 4 3))) - (h 4 3)) + (h 4 3)))) (h0 := h) rfl trivial ?_
                refine ⟨?_, rfl⟩
                unfold mt_lp
                congr 2
                simp only [e3] at *
                repeat (split <;> try omega)
              · exact absurd c_109_14 (by decide)
          · exact absurd c_65_11 (by decide)
      · exact absurd c_30_9 (by decide)
  · refine pg_br 6 (L := []) (P := pg_inR j ∧ pg_inR (h 4 3)) (c := j < (h 4 3)) (st1 := (26, [(0, .inr (.inr 4)), (1, .inl k), (2, .inl j), (3, .inl 1)], [], h)) (st2 := (22, [(0, .inr (.inr 4)), (1, .inl k), (2, .inl j), (3, .inl 1)], [], h)) rfl trivial ⟨⟨by omega, by omega⟩, ⟨by omega, by omega⟩⟩ (fun c_19_15 => ?_) (fun c_19_15 => ?_)
    · refine pg_br 3 (L := []) (P := pg_inR 1) (c := 1 = 0) (st1 := (42, [(0, .inr (.inr 4)), (1, .inl k), (2, .inl j), (3, .inl 1), (4, .inl 0)], [], h)) (st2 := (33, [(0, .inr (.inr 4)), (1, .inl k), (2, .inl j), (3, .inl 1), (4, .inl 0)], [], h)) rfl trivial ⟨by decide, by decide⟩ (fun c_30_16 => ?_) (fun c_30_16 => ?_)
      · exact absurd c_30_16 (by decide)
      · refine pg_br 7 (L := []) (P := pg_inR 0) (c := 0 = 0) (st1 := (59, [(0, .inr (.inr 4)), (1, .inl k), (2, .inl j), (3, .inl 1), (4, .inl 0), (5, .inl (k - (h 4 3)))], [], h)) (st2 := (50, [(0, .inr (.inr 4)), (1, .inl k), (2, .inl j), (3, .inl 1), (4, .inl 0), (5, .inl (k - (h 4 3)))], [], h)) rfl trivial ⟨by decide, by decide⟩ (fun c_47_17 => ?_) (fun c_47_17 => ?_)
        · refine pg_br 4 (L := []) (P := pg_inR 1) (c := 1 = 0) (st1 := (78, [(0, .inr (.inr 4)), (1, .inl k), (2, .inl j), (3, .inl 1), (4, .inl 0), (5, .inl (k - (h 4 3))), (6, .inl j)], [.inl (k - (h 4 3))], h)) (st2 := (68, [(0, .inr (.inr 4)), (1, .inl k), (2, .inl j), (3, .inl 1), (4, .inl 0), (5, .inl (k - (h 4 3))), (6, .inl j)], [.inl (k - (h 4 3))], h)) rfl trivial ⟨by decide, by decide⟩ (fun c_65_18 => ?_) (fun c_65_18 => ?_)
          · exact absurd c_65_18 (by decide)
          · refine pg_br 10 (L := []) (P := pg_inR ((k - (h 4 3)) + ((h 4 3) - j)) ∧ pg_inR (h 4 3)) (c := ((k - (h 4 3)) + ((h 4 3) - j)) < (h 4 3)) (st1 := (102, [(0, .inr (.inr 4)), (1, .inl k), (2, .inl j), (3, .inl 1), (4, .inl 0), (5, .inl (k - (h 4 3))), (6, .inl j), (7, .inl ((k - (h 4 3)) + ((h 4 3) - j)))], [], h)) (st2 := (92, [(0, .inr (.inr 4)), (1, .inl k), (2, .inl j), (3, .inl 1), (4, .inl 0), (5, .inl (k - (h 4 3))), (6, .inl j), (7, .inl ((k - (h 4 3)) + ((h 4 3) - j)))], [], h)) rfl trivial ⟨⟨by omega, by omega⟩, ⟨by omega, by omega⟩⟩ (fun c_89_19 => ?_) (fun c_89_19 => ?_)
            · refine pg_br 4 (L := []) (P := pg_inR 1 ∧ pg_inR 0) (c := ¬ 1 = 0) (st1 := (117, [(0, .inr (.inr 4)), (1, .inl k), (2, .inl j), (3, .inl 1), (4, .inl 0), (5, .inl (k - (h 4 3))), (6, .inl j), (7, .inl ((k - (h 4 3)) + ((h 4 3) - j))), (8, .inl ((k - (h 4 3)) + ((h 4 3) - j)))], [], h)) (st2 := (112, [(0, .inr (.inr 4)), (1, .inl k), (2, .inl j), (3, .inl 1), (4, .inl 0), (5, .inl (k - (h 4 3))), (6, .inl j), (7, .inl ((k - (h 4 3)) + ((h 4 3) - j))), (8, .inl ((k - (h 4 3)) + ((h 4 3) - j)))], [], h)) rfl trivial ⟨⟨by decide, by decide⟩, ⟨by decide, by decide⟩⟩ (fun c_109_20 => ?_) (fun c_109_20 => ?_)
              · refine pg_re 4 (L := []) (r := some (.inl (((k - (h 4 3)) + ((h 4 3) - j)) + (h 4 3)))) (h0 := h) rfl trivial ?_
                refine ⟨?_, rfl⟩
                unfold mt_lp
                congr 2
                simp only [e3] at *
                repeat (split <;> try omega)
              · exact absurd c_109_20 (by decide)
            · refine pg_br 8 (L := []) (P := pg_inR 1 ∧ pg_inR 0) (c := ¬ 1 = 0) (st1 := (117, [(0, .inr (.inr 4)), (1, .inl k), (2, .inl j), (3, .inl 1), (4, .inl 0), (5, .inl (k - (h 4 3))), (6, .inl j), (7, .inl ((k - (h 4 3)) + ((h 4 3) - j))), (8, .inl (((k - (h 4 3)) + ((h 4 3) - j)) - (h 4 3)))], [], h)) (st2 := (112, [(0, .inr (.inr 4)), (1, .inl k), (2, .inl j), (3, .inl 1), (4, .inl 0), (5, .inl (k - (h 4 3))), (6, .inl j), (7, .inl ((k - (h 4 3)) + ((h 4 3) - j))), (8, .inl (((k - (h 4 3)) + ((h 4 3) - j)) - (h 4 3)))], [], h)) rfl trivial ⟨⟨by decide, by decide⟩, ⟨by decide, by decide⟩⟩ (fun c_109_21 => ?_) (fun c_109_21 => ?_)
              · refine pg_re 4 (L := []) (r := some (.inl ((((k - (h 4 3)) + ((h 4 3) - j)) - (h 4 3)) + (h 4 3)))) (h0 := h) rfl trivial ?_
                refine ⟨?_, rfl⟩
                unfold mt_lp
                congr 2
                simp only [e3] at *
                repeat (split <;> try omega)
              · exact absurd c_109_21 (by decide)
        · exact absurd c_47_17 (by decide)
    · refine pg_br 4 (L := []) (P := pg_inR 1) (c := 1 = 0) (st1 := (42, [(0, .inr (.inr 4)), (1, .inl k), (2, .inl j), (3, .inl 1), (4, .inl 1)], [], h)) (st2 := (33, [(0, .inr (.inr 4)), (1, .inl k), (2, .inl j), (3, .inl 1), (4, .inl 1)], [], h)) rfl trivial ⟨by decide, by decide⟩ (fun c_30_22 => ?_) (fun c_30_22 => ?_)
      · exact absurd c_30_22 (by decide)
      · refine pg_br 7 (L := []) (P := pg_inR 1) (c := 1 = 0) (st1 := (59, [(0, .inr (.inr 4)), (1, .inl k), (2, .inl j), (3, .inl 1), (4, .inl 1), (5, .inl (k - (h 4 3)))], [], h)) (st2 := (50, [(0, .inr (.inr 4)), (1, .inl k), (2, .inl j), (3, .inl 1), (4, .inl 1), (5, .inl (k - (h 4 3)))], [], h)) rfl trivial ⟨by decide, by decide⟩ (fun c_47_23 => ?_) (fun c_47_23 => ?_)
        · exact absurd c_47_23 (by decide)
        · refine pg_br 8 (L := []) (P := pg_inR 1) (c := 1 = 0) (st1 := (78, [(0, .inr (.inr 4)), (1, .inl k), (2, .inl j), (3, .inl 1), (4, .inl 1), (5, .inl (k - (h 4 3))), (6, .inl (j - (h 4 3)))], [.inl (k - (h 4 3))], h)) (st2 := (68, [(0, .inr (.inr 4)), (1, .inl k), (2, .inl j), (3, .inl 1), (4, .inl 1), (5, .inl (k - (h 4 3))), (6, .inl (j - (h 4 3)))], [.inl (k - (h 4 3))], h)) rfl trivial ⟨by decide, by decide⟩ (fun c_65_24 => ?_) (fun c_65_24 => ?_)
          · exact absurd c_65_24 (by decide)
          · refine pg_br 10 (L := []) (P := pg_inR ((k - (h 4 3)) + ((h 4 3) - (j - (h 4 3)))) ∧ pg_inR (h 4 3)) (c := ((k - (h 4 3)) + ((h 4 3) - (j - (h 4 3)))) < (h 4 3)) (st1 := (102, [(0, .inr (.inr 4)), (1, .inl k), (2, .inl j), (3, .inl 1), (4, .inl 1), (5, .inl (k - (h 4 3))), (6, .inl (j - (h 4 3))), (7, .inl ((k - (h 4 3)) + ((h 4 3) - (j - (h 4 3)))))], [], h)) (st2 := (92, [(0, .inr (.inr 4)), (1, .inl k), (2, .inl j), (3, .inl 1), (4, .inl 1), (5, .inl (k - (h 4 3))), (6, .inl (j - (h 4 3))), (7, .inl ((k - (h 4 3)) + ((h 4 3) - (j - (h 4 3)))))], [], h)) rfl trivial ⟨⟨by omega, by omega⟩, ⟨by omega, by omega⟩⟩ (fun c_89_25 => ?_) (fun c_89_25 => ?_)
            · refine pg_br 4 (L := []) (P := pg_inR 1 ∧ pg_inR 1) (c := ¬ 1 = 1) (st1 := (117, [(0, .inr (.inr 4)), (1, .inl k), (2, .inl j), (3, .inl 1), (4, .inl 1), (5, .inl (k - (h 4 3))), (6, .inl (j - (h 4 3))), (7, .inl ((k - (h 4 3)) + ((h 4 3) - (j - (h 4 3))))), (8, .inl ((k - (h 4 3)) + ((h 4 3) - (j - (h 4 3)))))], [], h)) (st2 := (112, [(0, .inr (.inr 4)), (1, .inl k), (2, .inl j), (3, .inl 1), (4, .inl 1), (5, .inl (k - (h 4 3))), (6, .inl (j - (h 4 3))), (7, .inl ((k - (h 4 3)) + ((h 4 3) - (j - (h 4 3))))), (8, .inl ((k - (h 4 3)) + ((h 4 3) - (j - (h 4 3)))))], [], h)) rfl trivial ⟨⟨by decide, by decide⟩, ⟨by decide, by decide⟩⟩ (fun c_109_26 => ?_) (fun c_109_26 => ?_)
              · exact absurd c_109_26 (by decide)
              · refine pg_re 2 (L := []) (r := some (.inl ((k - (h 4 3)) + ((h 4 3) - (j - (h 4 3)))))) (h0 := h) rfl trivial ?_
                refine ⟨?_, rfl⟩
                unfold mt_lp
                congr 2
                simp only [e3] at *
                repeat (split <;> try omega)
            · refine pg_br 8 (L := []) (P := pg_inR 1 ∧ pg_inR 1) (c := ¬ 1 = 1) (st1 := (117, [(0, .inr (.inr 4)), (1, .inl k), (2, .inl j), (3, .inl 1), (4, .inl 1), (5, .inl (k - (h 4 3))), (6, .inl (j - (h 4 3))), (7, .inl ((k - (h 4 3)) + ((h 4 3) - (j - (h 4 3))))), (8, .inl (((k - (h 4 3)) + ((h 4 3) - (j - (h 4 3)))) - (h 4 3)))], [], h)) (st2 := (112, [(0, .inr (.inr 4)), (1, .inl k), (2, .inl j), (3, .inl 1), (4, .inl 1), (5, .inl (k - (h 4 3))), (6, .inl (j - (h 4 3))), (7, .inl ((k - (h 4 3)) + ((h 4 3) - (j - (h 4 3))))), (8, .inl (((k - (h 4 3)) + ((h 4 3) - (j - (h 4 3)))) - (h 4 3)))], [], h)) rfl trivial ⟨⟨by decide, by decide⟩, ⟨by decide, by decide⟩⟩ (fun c_109_27 => ?_) (fun c_109_27 => ?_)
              · exact absurd c_109_27 (by decide)
              · refine pg_re 2 (L := []) (r := some (.inl (((k - (h 4 3)) + ((h 4 3) - (j - (h 4 3)))) - (h 4 3)))) (h0 := h) rfl trivial ?_
                refine ⟨?_, rfl⟩
                unfold mt_lp
                congr 2
                simp only [e3] at *
                repeat (split <;> try omega)
