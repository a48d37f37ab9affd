/-! Moves: what its methods answer -/
def mt_q : List Int := [1, 0, 0, 1, 0, -1, 1, 0, -1, 0, 0, -1, 0, 1, -1, 0, 1, 0, 0, -1, 0, 1, 1, 0, -1, 0, 0, 1, 0, -1, -1, 0]
def mt_t : List Int := [1, 0, 0, 1, 0, -1, 1, 1, -1, -1, 1, 0, -1, 0, 0, -1, 0, 1, -1, -1, 1, 1, -1, 0, 0, 1, 1, 0, -1, 0, 1, 1, -1, -1, 0, 1, 0, -1, -1, 0, 1, 0, -1, -1, 1, 1, 0, -1]
/-- the numbers of LINEAR k, four each -/
def mt_e (s : Int) (j : Nat) : Int := if s = 0 then mt_q.getD j 0 else mt_t.getD j 0
def mt_rd (s : Int) : Int := if s = 0 then 4 else 6
/-- where LINEAR k takes a point -/
def mt_x (s k x y : Int) : Int := mt_e s (4 * k).toNat * x + mt_e s (4 * k + 1).toNat * y
def mt_y (s k x y : Int) : Int := mt_e s (4 * k + 2).toNat * x + mt_e s (4 * k + 3).toNat * y
theorem mt_rd_or {s : Int} (hs : s = 0 ∨ s = 1) : (s = 0 ∧ mt_rd s = 4) ∨ (s = 1 ∧ mt_rd s = 6) := by
  rcases hs with rfl | rfl
  · exact Or.inl ⟨rfl, rfl⟩
  · exact Or.inr ⟨rfl, rfl⟩
/-- the object of Moves holds sort s, size n -/
def cm_B (h : pg_H) (s n : Int) : Prop := (s = 0 ∨ s = 1) ∧ (1 ≤ n ∧ n ≤ 12) ∧ h 4 1 = s ∧ h 4 2 = n ∧ h 4 3 = mt_rd s ∧ ∀ j : Nat, (j : Int) < 8 * mt_rd s → h 5 j = mt_e s j
theorem pg_xor_neg {x y : Int} (hx : pg_inR x) (hy : pg_inR y) : pg_xor x y < 0 ↔ ¬ (x < 0 ↔ y < 0) := by
  have k : ∀ v : BitVec 32, (v.toInt < 0) ↔ v.msb = true := fun v => by rw [BitVec.msb_eq_toInt]; simp
  have e : pg_xor x y = ((pg_I x).toBitVec ^^^ (pg_I y).toBitVec).toInt := rfl
  have m1 : ∀ z : Int, pg_inR z → (pg_I z).toBitVec.msb = decide (z < 0) := by
    intro z hz
    rw [BitVec.msb_eq_toInt]
    show decide ((pg_I z).toInt < 0) = _
    rw [pg_I_in hz]
  rw [e, k, BitVec.msb_xor, m1 x hx, m1 y hy]
  by_cases h1 : x < 0 <;> by_cases h2 : y < 0 <;> simp [h1, h2]
theorem pg_ti_in (v : Int32) : pg_inR v.toInt := ⟨Int32.le_toInt v, Int.le_of_lt_add_one (by have := Int32.toInt_lt v; omega)⟩
theorem pg_xor_in (x y : Int) : pg_inR (pg_xor x y) := pg_ti_in _
theorem pg_tm {x y : Int} (hy : 0 < y) : -y < Int.tmod x y ∧ Int.tmod x y < y := tmod_bounds hy
theorem pg_tms (x y : Int) : (0 ≤ x → 0 ≤ Int.tmod x y) ∧ (x < 0 → Int.tmod x y ≤ 0) := by
  refine ⟨fun h => Int.tmod_nonneg y h, fun h => ?_⟩
  have h1 := Int.tmod_nonneg (a := -x) y (by omega)
  rw [Int.neg_tmod] at h1
  omega
theorem pg_em {x y : Int} (hy : 0 < y) : x % y = if Int.tmod x y < 0 then Int.tmod x y + y else Int.tmod x y := by
  have h1 := Int.tmod_add_mul_tdiv x y
  obtain ⟨h2, h3⟩ := pg_tm (x := x) hy
  have h4 : x % y = Int.tmod x y % y := by
    conv => lhs; rw [← h1]
    rw [Int.add_mul_emod_self_left]
  rw [h4]
  by_cases hc : Int.tmod x y < 0
  · rw [if_pos hc, ← Int.add_emod_right]
    exact Int.emod_eq_of_lt (by omega) (by omega)
  · rw [if_neg hc]
    exact Int.emod_eq_of_lt (by omega) (by omega)
theorem pg_tmod_nn {x y : Int} (hx : 0 ≤ x) : Int.tmod x y = x % y := Int.tmod_eq_emod_of_nonneg hx
theorem pg_tdiv_nn {x y : Int} (hx : 0 ≤ x) : Int.tdiv x y = x / y := Int.tdiv_eq_ediv_of_nonneg hx
theorem cj_fm (h : pg_H) (x y : Int) (hx : pg_inR x) (hy : 0 < y ∧ y < 1000000) : pg_Sem true pm_J_floorMod [.inl x, .inl y] h (fun r h' => r = some (.inl (x % y)) ∧ h' = h) := by
  obtain ⟨hx1, hx2⟩ := id hx
  obtain ⟨ht1, ht2⟩ := pg_tm (x := x) hy.1
  have hem := pg_em (x := x) hy.1
  have hxn := pg_xor_neg (x := x) (y := y) ⟨by omega, by omega⟩ ⟨by omega, by omega⟩
  have hxi := pg_xor_in x y
  obtain ⟨hxi1, hxi2⟩ := hxi
  have hsg := pg_tms x y
  refine pg_Sem_of pm_J_floorMod_f rfl ?_
  refine pg_br 7 (L := [y ≠ 0 ∧ pg_inR x ∧ pg_inR y]) (P := pg_inR (pg_xor x y)) (c := 0 ≤ (pg_xor x y)) (st1 := (18, [(0, .inl x), (1, .inl y), (2, .inl (Int.tmod x y))], [], h)) (st2 := (10, [(0, .inl x), (1, .inl y), (2, .inl (Int.tmod x y))], [], h)) rfl ⟨by omega, ⟨by omega, by omega⟩, ⟨by omega, by omega⟩⟩ ⟨by omega, by omega⟩ (fun c_7_1 => ?_) (fun c_7_1 => ?_)
  · refine pg_re 1 (L := []) (r := some (.inl (Int.tmod x y))) (h0 := h) rfl trivial ?_
    refine ⟨?_, rfl⟩
    congr 2
    rw [hem]
    split <;> omega
  · refine pg_br 1 (L := []) (P := pg_inR (Int.tmod x y)) (c := (Int.tmod x y) = 0) (st1 := (18, [(0, .inl x), (1, .inl y), (2, .inl (Int.tmod x y))], [], h)) (st2 := (14, [(0, .inl x), (1, .inl y), (2, .inl (Int.tmod x y))], [], h)) rfl trivial ⟨by omega, by omega⟩ (fun c_11_2 => ?_) (fun c_11_2 => ?_)
    · refine pg_re 1 (L := []) (r := some (.inl (Int.tmod x y))) (h0 := h) rfl trivial ?_
      refine ⟨?_, rfl⟩
      congr 2
      rw [hem]
      split <;> omega
    · refine pg_re 3 (L := []) (r := some (.inl ((Int.tmod x y) + y))) (h0 := h) rfl trivial ?_
      refine ⟨?_, rfl⟩
      congr 2
      rw [hem]
      split <;> omega
theorem cj_max (h : pg_H) (x y : Int) (hx : pg_inR x) (hy : pg_inR y) : pg_Sem true pm_J_max [.inl x, .inl y] h (fun r h' => r = some (.inl (if x < y then y else x)) ∧ h' = h) := by
  obtain ⟨hx1, hx2⟩ := id hx
  obtain ⟨hy1, hy2⟩ := id hy
  refine pg_Sem_of pm_J_max_f rfl ?_
  refine pg_br 2 (L := []) (P := pg_inR x ∧ pg_inR y) (c := x < y) (st1 := (9, [(0, .inl x), (1, .inl y)], [], h)) (st2 := (5, [(0, .inl x), (1, .inl y)], [], h)) rfl trivial ⟨⟨by omega, by omega⟩, ⟨by omega, by omega⟩⟩ (fun c_2_1 => ?_) (fun c_2_1 => ?_)
  · refine pg_re 1 (L := []) (r := some (.inl y)) (h0 := h) rfl trivial ?_
    refine ⟨?_, rfl⟩
    congr 2
    split <;> omega
  · refine pg_re 2 (L := []) (r := some (.inl x)) (h0 := h) rfl trivial ?_
    refine ⟨?_, rfl⟩
    congr 2
    split <;> omega
theorem cm_isLinear {h : pg_H} {s n : Int} (hB : cm_B h s n) (k : Int) (hk : pg_inR k) : pg_Sem true pm_M_isLinear [.inr (.inr 4), .inl k] h (fun r h' => r = some (.inl (if 0 ≤ k ∧ k < 2 * mt_rd s then 1 else 0)) ∧ h' = h) := by
  obtain ⟨hs, ⟨hn1, hn2⟩, e1, e2, e3, e5⟩ := hB
  have hr := mt_rd_or hs
  obtain ⟨hk1, hk2⟩ := hk
  refine pg_Sem_of pm_M_isLinear_f rfl ?_
  refine pg_br 1 (L := []) (P := pg_inR k) (c := k < 0) (st1 := (18, [(0, .inr (.inr 4)), (1, .inl k)], [], h)) (st2 := (4, [(0, .inr (.inr 4)), (1, .inl k)], [], h)) rfl trivial ⟨by omega, by omega⟩ (fun c_1_1 => ?_) (fun c_1_1 => ?_)
  · refine pg_re 1 (L := [0 = 0 ∨ 0 = 1]) (r := some (.inl 0)) (h0 := h) rfl (Or.inl rfl) ?_
    refine ⟨?_, rfl⟩
    congr 2
    split <;> omega
  · refine pg_br 5 (L := []) (P := pg_inR k ∧ pg_inR (2 * (h 4 3))) (c := (2 * (h 4 3)) ≤ k) (st1 := (18, [(0, .inr (.inr 4)), (1, .inl k)], [], h)) (st2 := (14, [(0, .inr (.inr 4)), (1, .inl k)], [], h)) rfl trivial ⟨⟨by omega, by omega⟩, ⟨by omega, by omega⟩⟩ (fun c_11_2 => ?_) (fun c_11_2 => ?_)
    · refine pg_re 1 (L := [0 = 0 ∨ 0 = 1]) (r := some (.inl 0)) (h0 := h) rfl (Or.inl rfl) ?_
      refine ⟨?_, rfl⟩
      congr 2
      split <;> omega
    · refine pg_re 2 (L := [1 = 0 ∨ 1 = 1]) (r := some (.inl 1)) (h0 := h) rfl (Or.inr rfl) ?_
      refine ⟨?_, rfl⟩
      congr 2
      split <;> omega
theorem cm_linears {h : pg_H} {s n : Int} (hB : cm_B h s n) : pg_Sem true pm_M_linears [.inr (.inr 4)] h (fun r h' => r = some (.inl (2 * mt_rd s)) ∧ h' = h) := by
  obtain ⟨hs, ⟨hn1, hn2⟩, e1, e2, e3, e5⟩ := hB
  have hr := mt_rd_or hs
  refine pg_Sem_of pm_M_linears_f rfl ?_
  refine pg_re 4 (L := []) (r := some (.inl (2 * (h 4 3)))) (h0 := h) rfl trivial ?_
  refine ⟨?_, rfl⟩
  rw [e3]
theorem cm_points {h : pg_H} {s n : Int} (hB : cm_B h s n) : pg_Sem true pm_M_points [.inr (.inr 4)] h (fun r h' => r = some (.inl (n * n)) ∧ h' = h) := by
  obtain ⟨hs, ⟨hn1, hn2⟩, e1, e2, e3, e5⟩ := hB
  have hr := mt_rd_or hs
  refine pg_Sem_of pm_M_points_f rfl ?_
  refine pg_re 5 (L := []) (r := some (.inl ((h 4 2) * (h 4 2)))) (h0 := h) rfl trivial ?_
  refine ⟨?_, rfl⟩
  rw [e2]
theorem cm_wrap {h : pg_H} {s n : Int} (hB : cm_B h s n) (v : Int) (hv : pg_inR v) : pg_Sem true pm_M_wrap [.inr (.inr 4), .inl v] h (fun r h' => r = some (.inl (v % n)) ∧ h' = h) := by
  obtain ⟨hs, ⟨hn1, hn2⟩, e1, e2, e3, e5⟩ := hB
  have hr := mt_rd_or hs
  obtain ⟨hv1, hv2⟩ := hv
  refine pg_Sem_of pm_M_wrap_f rfl ?_
  refine pg_br 3 (L := []) (P := pg_inR (h 4 2) ∧ pg_inR 1) (c := 1 ≤ (h 4 2)) (st1 := (12, [(0, .inr (.inr 4)), (1, .inl v)], [], h)) (st2 := (8, [(0, .inr (.inr 4)), (1, .inl v)], [], h)) rfl trivial ⟨⟨by omega, by omega⟩, ⟨by decide, by decide⟩⟩ (fun c_5_1 => ?_) (fun c_5_1 => ?_)
  · refine pg_ca 3 (L := []) (Mc := pm_J_floorMod) (as := [.inl v, .inl (h 4 2)]) (h0 := h) (pc := 20) (lv := [(0, .inr (.inr 4)), (1, .inl v)]) (rest := []) rfl trivial (cj_fm h v (h 4 2) ⟨by omega, by omega⟩ ⟨by omega, by omega⟩) ?_
    intro r_1 h_1 e_1; rw [e_1.1, e_1.2]
    refine pg_re 0 (L := []) (r := some (.inl (v % (h 4 2)))) (h0 := h) rfl trivial ?_
    refine ⟨?_, rfl⟩
    rw [e2]
  · exact (by exfalso; omega)
theorem cm_wrapSixths {h : pg_H} {s n : Int} (hB : cm_B h s n) (v : Int) (hv : pg_inR v) : pg_Sem true pm_M_wrapSixths [.inr (.inr 4), .inl v] h (fun r h' => r = some (.inl (v % (6 * n))) ∧ h' = h) := by
  obtain ⟨hs, ⟨hn1, hn2⟩, e1, e2, e3, e5⟩ := hB
  have hr := mt_rd_or hs
  obtain ⟨hv1, hv2⟩ := hv
  refine pg_Sem_of pm_M_wrapSixths_f rfl ?_
  refine pg_br 3 (L := []) (P := pg_inR (h 4 2) ∧ pg_inR 1) (c := 1 ≤ (h 4 2)) (st1 := (12, [(0, .inr (.inr 4)), (1, .inl v)], [], h)) (st2 := (8, [(0, .inr (.inr 4)), (1, .inl v)], [], h)) rfl trivial ⟨⟨by omega, by omega⟩, ⟨by decide, by decide⟩⟩ (fun c_5_1 => ?_) (fun c_5_1 => ?_)
  · refine pg_ca 5 (L := []) (Mc := pm_J_floorMod) (as := [.inl v, .inl (6 * (h 4 2))]) (h0 := h) (pc := 23) (lv := [(0, .inr (.inr 4)), (1, .inl v)]) (rest := []) rfl trivial (cj_fm h v (6 * (h 4 2)) ⟨by omega, by omega⟩ ⟨by omega, by omega⟩) ?_
    intro r_1 h_1 e_1; rw [e_1.1, e_1.2]
    refine pg_re 0 (L := []) (r := some (.inl (v % (6 * (h 4 2))))) (h0 := h) rfl trivial ?_
    refine ⟨?_, rfl⟩
    rw [e2]
  · exact (by exfalso; omega)
theorem cm_columnOf {h : pg_H} {s n : Int} (hB : cm_B h s n) (v : Int) (hv : 0 ≤ v ∧ v < 1000000) : pg_Sem true pm_M_columnOf [.inr (.inr 4), .inl v] h (fun r h' => r = some (.inl (v % n)) ∧ h' = h) := by
  obtain ⟨hs, ⟨hn1, hn2⟩, e1, e2, e3, e5⟩ := hB
  have hr := mt_rd_or hs
  obtain ⟨hv1, hv2⟩ := hv
  refine pg_Sem_of pm_M_columnOf_f rfl ?_
  refine pg_br 3 (L := []) (P := pg_inR (h 4 2) ∧ pg_inR 1) (c := 1 ≤ (h 4 2)) (st1 := (12, [(0, .inr (.inr 4)), (1, .inl v)], [], h)) (st2 := (8, [(0, .inr (.inr 4)), (1, .inl v)], [], h)) rfl trivial ⟨⟨by omega, by omega⟩, ⟨by decide, by decide⟩⟩ (fun c_5_1 => ?_) (fun c_5_1 => ?_)
  · refine pg_re 4 (L := [(h 4 2) ≠ 0 ∧ pg_inR v ∧ pg_inR (h 4 2)]) (r := some (.inl (Int.tmod v (h 4 2)))) (h0 := h) rfl ⟨by omega, ⟨by omega, by omega⟩, ⟨by omega, by omega⟩⟩ ?_
    refine ⟨?_, rfl⟩
    rw [pg_tmod_nn hv1, e2]
  · exact (by exfalso; omega)
theorem cm_rowOf {h : pg_H} {s n : Int} (hB : cm_B h s n) (v : Int) (hv : 0 ≤ v ∧ v < 1000000) : pg_Sem true pm_M_rowOf [.inr (.inr 4), .inl v] h (fun r h' => r = some (.inl (v / n)) ∧ h' = h) := by
  obtain ⟨hs, ⟨hn1, hn2⟩, e1, e2, e3, e5⟩ := hB
  have hr := mt_rd_or hs
  obtain ⟨hv1, hv2⟩ := hv
  refine pg_Sem_of pm_M_rowOf_f rfl ?_
  refine pg_br 3 (L := []) (P := pg_inR (h 4 2) ∧ pg_inR 1) (c := 1 ≤ (h 4 2)) (st1 := (12, [(0, .inr (.inr 4)), (1, .inl v)], [], h)) (st2 := (8, [(0, .inr (.inr 4)), (1, .inl v)], [], h)) rfl trivial ⟨⟨by omega, by omega⟩, ⟨by decide, by decide⟩⟩ (fun c_5_1 => ?_) (fun c_5_1 => ?_)
  · refine pg_re 4 (L := [(h 4 2) ≠ 0 ∧ pg_inR v ∧ pg_inR (h 4 2)]) (r := some (.inl (Int.tdiv v (h 4 2)))) (h0 := h) rfl ⟨by omega, ⟨by omega, by omega⟩, ⟨by omega, by omega⟩⟩ ?_
    refine ⟨?_, rfl⟩
    rw [pg_tdiv_nn hv1, e2]
  · exact (by exfalso; omega)
theorem cm_linearX {h : pg_H} {s n : Int} (hB : cm_B h s n) (k x y : Int) (hk : 0 ≤ k ∧ k < 2 * mt_rd s) : pg_Sem true pm_M_linearX [.inr (.inr 4), .inl k, .inl x, .inl y] h (fun r h' => r = some (.inl (mt_x s k x y)) ∧ h' = h) := by
  obtain ⟨hs, ⟨hn1, hn2⟩, e1, e2, e3, e5⟩ := hB
  have hr := mt_rd_or hs
  refine pg_Sem_of pm_M_linearX_f rfl ?_
  refine pg_re 19 (L := [0 ≤ (4 * k) ∧ (4 * k) < (48 : Int), 0 ≤ ((4 * k) + 1) ∧ ((4 * k) + 1) < (48 : Int)]) (r := some (.inl (((h 5 ((4 * k).toNat)) * x) + ((h 5 (((4 * k) + 1).toNat)) * y)))) (h0 := h) rfl ⟨⟨by omega, by omega⟩, ⟨by omega, by omega⟩⟩ ?_
  refine ⟨?_, rfl⟩
  rw [e5 (4 * k).toNat (by omega), e5 (4 * k + 1).toNat (by omega)]
  rfl
theorem cm_linearY {h : pg_H} {s n : Int} (hB : cm_B h s n) (k x y : Int) (hk : 0 ≤ k ∧ k < 2 * mt_rd s) : pg_Sem true pm_M_linearY [.inr (.inr 4), .inl k, .inl x, .inl y] h (fun r h' => r = some (.inl (mt_y s k x y)) ∧ h' = h) := by
  obtain ⟨hs, ⟨hn1, hn2⟩, e1, e2, e3, e5⟩ := hB
  have hr := mt_rd_or hs
  refine pg_Sem_of pm_M_linearY_f rfl ?_
  refine pg_re 21 (L := [0 ≤ ((4 * k) + 2) ∧ ((4 * k) + 2) < (48 : Int), 0 ≤ ((4 * k) + 3) ∧ ((4 * k) + 3) < (48 : Int)]) (r := some (.inl (((h 5 (((4 * k) + 2).toNat)) * x) + ((h 5 (((4 * k) + 3).toNat)) * y)))) (h0 := h) rfl ⟨⟨by omega, by omega⟩, ⟨by omega, by omega⟩⟩ ?_
  refine ⟨?_, rfl⟩
  rw [e5 (4 * k + 2).toNat (by omega), e5 (4 * k + 3).toNat (by omega)]
  rfl
