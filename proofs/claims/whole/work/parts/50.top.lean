/-! the class: its object holds together; the calls that ask -/
def ci_I (h : pg_H) (s n : Int) : Prop := cq_I h s n ∧ rc_I h ∧ po_I h s n ∧ sg_I h s ∧ hv_I h s n ∧ gn_I h s n
/-- the object tells the same as before -/
def ci_Q (h g : pg_H) (s n : Int) : Prop := ci_I g s n ∧ g 7 = h 7 ∧ g 20 = h 20 ∧ g 21 = h 21
theorem po_I_fr {h g : pg_H} {s n : Int} (he : sy_eq h g) (h13 : g 13 = h 13) (h14 : g 14 = h 14) (hk : h 10 9 = 1 → g 10 9 = 1) (hP : po_I h s n) : po_I g s n := by
  unfold po_I po_D at *
  rw [h13, h14]
  rcases hP with hq | ⟨h1, h2, h3⟩
  · exact Or.inl hq
  · obtain ⟨a, b, c⟩ := he h2
    rw [po_T_fr (fun j hj _ => a j hj) b c]
    exact Or.inr ⟨h1, hk h2, h3⟩
theorem sg_I_fr {h g : pg_H} {s : Int} (he : sy_eq h g) (h15 : g 15 = h 15) (h16 : g 16 = h 16) (h17 : g 17 = h 17) (hk : h 10 9 = 1 → g 10 9 = 1) (hP : sg_I h s) : sg_I g s := by
  unfold sg_I at *
  rcases hP with hq | ⟨h1, h2, h3⟩
  · exact Or.inl (by rw [h15]; exact hq)
  · obtain ⟨a, b, c⟩ := he h2
    exact Or.inr ⟨by rw [h15]; exact h1, hk h2, sg_D_fr (fun j hj _ => a j hj) b c (fun j _ => by rw [h15]) h16 h17 h3⟩
theorem hv_I_fr {h g : pg_H} {s n : Int} (he : sy_eq h g) (h18 : g 18 = h 18) (hk : h 10 9 = 1 → g 10 9 = 1) (hP : hv_I h s n) : hv_I g s n := by
  unfold hv_I hv_D at *
  rw [h18]
  rcases hP with hq | ⟨h1, h2, h3⟩
  · exact Or.inl hq
  · obtain ⟨a, b, c⟩ := he h2
    rw [(hv_run_fr (fun j hj _ => a j hj) b c s n _).2, a 7 (by decide), show sy_sh g n = sy_sh h n by unfold sy_sh; rw [a 4 (by decide), a 6 (by decide)]]
    exact Or.inr ⟨h1, hk h2, h3⟩
theorem sy_eq_k {h g : pg_H} (he : sy_eq h g) : h 10 9 = 1 → g 10 9 = 1 := fun h1 => by
  rw [(he h1).1 9 (by decide)]
  exact h1
theorem rc_I_fr {h g : pg_H} {cs : List Nat} (hf : pg_fr cs h g) (h1 : 1 ∉ cs) (h2 : 2 ∉ cs) (h3 : 3 ∉ cs) (hI : rc_I h) : rc_I g := by
  unfold rc_I at *
  rw [hf 1 h1, hf 2 h2, hf 3 h3]
  exact hI
/-- behind a call that changed rows 9 .. 12 alone -/
theorem ci_q1 {h g : pg_H} {s n : Int} (hI : ci_I h s n) (hf : pg_fr [9, 10, 11, 12] h g) (he : sy_eq h g) (hq : cq_I g s n) : ci_Q h g s n := by
  obtain ⟨-, h2, h3, h4, h5, h6⟩ := hI
  have hk := sy_eq_k he
  exact ⟨⟨hq, rc_I_fr hf (by decide) (by decide) (by decide) h2, po_I_fr he (hf 13 (by decide)) (hf 14 (by decide)) hk h3, sg_I_fr he (hf 15 (by decide)) (hf 16 (by decide)) (hf 17 (by decide)) hk h4, hv_I_fr he (hf 18 (by decide)) hk h5, gn_I_fr (hf 20 (by decide)) (hf 21 (by decide)) h6⟩, hf 7 (by decide), hf 20 (by decide), hf 21 (by decide)⟩
theorem ci_q0 {h : pg_H} {s n : Int} (hI : ci_I h s n) : ci_Q h h s n := ⟨hI, rfl, rfl, rfl⟩
theorem cq_I_fr9 {h g : pg_H} {s n : Int} (hf : pg_fr [9] h g) (hq : cq_I h s n) : cq_I g s n := by
  obtain ⟨hB, hC, hS, hK, hV⟩ := hq
  have e10 := hf 10 (by decide)
  refine ⟨cm_B_fr hB hf (by decide) (by decide), cp_C_fr hC hf (by decide), cp_S_fr hS hf (by decide) (by decide), ?_, ?_⟩
  · rw [e10]
    rcases hK with h1 | h1
    · exact Or.inl h1
    · exact Or.inr ⟨h1.1, sy_D_fr (hf 7 (by decide)) (fun j _ _ => by rw [e10]) (hf 11 (by decide)) (hf 12 (by decide)) h1.2⟩
  · rw [e10]
    rcases hV with h1 | h1
    · exact Or.inl h1
    · exact Or.inr ⟨h1.1, sy_V_fr (hf 7 (by decide)) (hf 8 (by decide)) (fun j _ _ => by rw [e10]) h1.2⟩
theorem ci_q9 {h g : pg_H} {s n : Int} (hI : ci_I h s n) (hf : pg_fr [9] h g) : ci_Q h g s n :=
  ci_q1 hI (pg_fr_tr (pg_fr_rf _ _) hf (by decide)) (fun _ => ⟨fun j _ => by rw [hf 10 (by decide)], hf 11 (by decide), hf 12 (by decide)⟩) (cq_I_fr9 hf hI.1)
theorem ct_isColour (h : pg_H) (c : Int) (hc : pg_inR c) : pg_Sem true pm_P_isColour [.inl c] h (fun r h' => r = some (.inl (if 0 ≤ c ∧ c ≤ 9 then 1 else 0)) ∧ h' = h) := by
  obtain ⟨hc1, hc2⟩ := hc
  refine pg_Sem_of pm_P_isColour_f rfl ?_
  refine pg_br 1 (L := []) (P := pg_inR c) (c := c < 0) (st1 := (14, [(0, .inl c)], [], h)) (st2 := (4, [(0, .inl c)], [], h)) rfl trivial ⟨by omega, by omega⟩ (fun c_1_1 => ?_) (fun c_1_1 => ?_)
  · refine pg_re 1 (L := [0 = 0 ∨ 0 = 1]) (r := some (.inl 0)) (h0 := h) rfl (Or.inl rfl) ?_
    refine ⟨?_, rfl⟩
    first | rw [if_pos (by omega)] | rw [if_neg (by omega)]
  · refine pg_br 2 (L := []) (P := pg_inR c ∧ pg_inR 10) (c := 10 ≤ c) (st1 := (14, [(0, .inl c)], [], h)) (st2 := (10, [(0, .inl c)], [], h)) rfl trivial ⟨⟨by omega, by omega⟩, ⟨by decide, by decide⟩⟩ (fun c_7_2 => ?_) (fun c_7_2 => ?_)
    · refine pg_re 1 (L := [0 = 0 ∨ 0 = 1]) (r := some (.inl 0)) (h0 := h) rfl (Or.inl rfl) ?_
      refine ⟨?_, rfl⟩
      first | rw [if_pos (by omega)] | rw [if_neg (by omega)]
    · refine pg_re 2 (L := [1 = 0 ∨ 1 = 1]) (r := some (.inl 1)) (h0 := h) rfl (Or.inr rfl) ?_
      refine ⟨?_, rfl⟩
      first | rw [if_pos (by omega)] | rw [if_neg (by omega)]
theorem ct_isPart (h : pg_H) (c : Int) (hc : pg_inR c) : pg_Sem true pm_P_isPartOfMove [.inl c] h (fun r h' => r = some (.inl (if 0 ≤ c ∧ c ≤ 2 then 1 else 0)) ∧ h' = h) := by
  obtain ⟨hc1, hc2⟩ := hc
  refine pg_Sem_of pm_P_isPartOfMove_f rfl ?_
  refine pg_br 1 (L := []) (P := pg_inR c) (c := c < 0) (st1 := (13, [(0, .inl c)], [], h)) (st2 := (4, [(0, .inl c)], [], h)) rfl trivial ⟨by omega, by omega⟩ (fun c_1_1 => ?_) (fun c_1_1 => ?_)
  · refine pg_re 1 (L := [0 = 0 ∨ 0 = 1]) (r := some (.inl 0)) (h0 := h) rfl (Or.inl rfl) ?_
    refine ⟨?_, rfl⟩
    first | rw [if_pos (by omega)] | rw [if_neg (by omega)]
  · refine pg_br 2 (L := []) (P := pg_inR c ∧ pg_inR 2) (c := 2 < c) (st1 := (13, [(0, .inl c)], [], h)) (st2 := (9, [(0, .inl c)], [], h)) rfl trivial ⟨⟨by omega, by omega⟩, ⟨by decide, by decide⟩⟩ (fun c_6_2 => ?_) (fun c_6_2 => ?_)
    · refine pg_re 1 (L := [0 = 0 ∨ 0 = 1]) (r := some (.inl 0)) (h0 := h) rfl (Or.inl rfl) ?_
      refine ⟨?_, rfl⟩
      first | rw [if_pos (by omega)] | rw [if_neg (by omega)]
    · refine pg_re 2 (L := [1 = 0 ∨ 1 = 1]) (r := some (.inl 1)) (h0 := h) rfl (Or.inr rfl) ?_
      refine ⟨?_, rfl⟩
      first | rw [if_pos (by omega)] | rw [if_neg (by omega)]
theorem ct_isOrder (h : pg_H) (c : Int) (hc : pg_inR c) : pg_Sem true pm_P_isOrder [.inl c] h (fun r h' => r = some (.inl (if c = 2 ∨ c = 3 ∨ c = 4 ∨ c = 6 then 1 else 0)) ∧ h' = h) := by
  obtain ⟨hc1, hc2⟩ := hc
  refine pg_Sem_of pm_P_isOrder_f rfl ?_
  refine pg_br 2 (L := []) (P := pg_inR c ∧ pg_inR 2) (c := c = 2) (st1 := (21, [(0, .inl c)], [], h)) (st2 := (5, [(0, .inl c)], [], h)) rfl trivial ⟨⟨by omega, by omega⟩, ⟨by decide, by decide⟩⟩ (fun c_2_1 => ?_) (fun c_2_1 => ?_)
  · refine pg_re 2 (L := [1 = 0 ∨ 1 = 1]) (r := some (.inl 1)) (h0 := h) rfl (Or.inr rfl) ?_
    refine ⟨?_, rfl⟩
    first | rw [if_pos (by omega)] | rw [if_neg (by omega)]
  · refine pg_br 2 (L := []) (P := pg_inR c ∧ pg_inR 3) (c := c = 3) (st1 := (21, [(0, .inl c)], [], h)) (st2 := (10, [(0, .inl c)], [], h)) rfl trivial ⟨⟨by omega, by omega⟩, ⟨by decide, by decide⟩⟩ (fun c_7_2 => ?_) (fun c_7_2 => ?_)
    · refine pg_re 2 (L := [1 = 0 ∨ 1 = 1]) (r := some (.inl 1)) (h0 := h) rfl (Or.inr rfl) ?_
      refine ⟨?_, rfl⟩
      first | rw [if_pos (by omega)] | rw [if_neg (by omega)]
    · refine pg_br 2 (L := []) (P := pg_inR c ∧ pg_inR 4) (c := c = 4) (st1 := (21, [(0, .inl c)], [], h)) (st2 := (15, [(0, .inl c)], [], h)) rfl trivial ⟨⟨by omega, by omega⟩, ⟨by decide, by decide⟩⟩ (fun c_12_3 => ?_) (fun c_12_3 => ?_)
      · refine pg_re 2 (L := [1 = 0 ∨ 1 = 1]) (r := some (.inl 1)) (h0 := h) rfl (Or.inr rfl) ?_
        refine ⟨?_, rfl⟩
        first | rw [if_pos (by omega)] | rw [if_neg (by omega)]
      · refine pg_br 2 (L := []) (P := pg_inR c ∧ pg_inR 6) (c := ¬ c = 6) (st1 := (25, [(0, .inl c)], [], h)) (st2 := (21, [(0, .inl c)], [], h)) rfl trivial ⟨⟨by omega, by omega⟩, ⟨by decide, by decide⟩⟩ (fun c_18_4 => ?_) (fun c_18_4 => ?_)
        · refine pg_re 1 (L := [0 = 0 ∨ 0 = 1]) (r := some (.inl 0)) (h0 := h) rfl (Or.inl rfl) ?_
          refine ⟨?_, rfl⟩
          first | rw [if_pos (by omega)] | rw [if_neg (by omega)]
        · refine pg_re 2 (L := [1 = 0 ∨ 1 = 1]) (r := some (.inl 1)) (h0 := h) rfl (Or.inr rfl) ?_
          refine ⟨?_, rfl⟩
          first | rw [if_pos (by omega)] | rw [if_neg (by omega)]
theorem ct_colour {h : pg_H} {s n : Int} (hI : ci_I h s n) (x : Int) (hx : pg_inR x) (y : Int) (hy : pg_inR y) : pg_Sem true pm_P_colour [.inr (.inr 0), .inl x, .inl y] h (fun r h' => r = some (.inl (h 7 (mt_pt n (x % n) (y % n)).toNat)) ∧ ci_Q h h' s n) := by
  obtain ⟨hQ, hRc, hPo, hSg, hHv, hGn⟩ := id hI
  obtain ⟨hB, hC, hS, -, -⟩ := id hQ
  obtain ⟨hs, ⟨hn1, hn2⟩, e1, e2, e3, e5⟩ := id hB
  have hr := mt_rd_or hs
  obtain ⟨x1, x2⟩ := hx
  obtain ⟨y1, y2⟩ := hy
  have hpt := mt_pt_bd hn1 hn2 (mt_mod hn1 x) (mt_mod hn1 y)
  refine pg_Sem_of pm_P_colour_f rfl ?_
  refine pg_ca 7 (L := []) (Mc := pm_M_point) (as := [.inr (.inr 4), .inl x, .inl y]) (h0 := h) (pc := 16) (lv := [(0, .inr (.inr 0)), (1, .inl x), (2, .inl y)]) (rest := [.inr (.inr 7)]) rfl trivial (cm_point hB x y ⟨by omega, by omega⟩ ⟨by omega, by omega⟩) ?_
  intro r_1 h_1 e_1; rw [e_1.1, e_1.2]
  refine pg_re 1 (L := [0 ≤ (mt_pt n (x % n) (y % n)) ∧ (mt_pt n (x % n) (y % n)) < (144 : Int)]) (r := some (.inl (h 7 ((mt_pt n (x % n) (y % n)).toNat)))) (h0 := h) rfl ⟨by omega, by omega⟩ ?_
  exact ⟨rfl, ci_q0 hI⟩
set_option maxHeartbeats 4000000 in
theorem ct_goes {h : pg_H} {s n : Int} (hI : ci_I h s n) (k : Int) (hk : pg_inR k) (u : Int) (hu : pg_inR u) (v : Int) (hv : pg_inR v) (x : Int) (hx : pg_inR x) (y : Int) (hy : pg_inR y) (w : Int) (hw : pg_inR w) : pg_Sem true pm_P_goes [.inr (.inr 0), .inl k, .inl u, .inl v, .inl x, .inl y, .inl w] h (fun r h' => r = some (.inl (if (0 ≤ k ∧ k < 2 * mt_rd s) ∧ 0 ≤ w ∧ w ≤ 1 then (if w = 0 then mt_tg s n k (u % n) (v % n) (x % n) (y % n) % n else mt_tg s n k (u % n) (v % n) (x % n) (y % n) / n) else -2)) ∧ ci_Q h h' s n) := by
  obtain ⟨hQ, hRc, hPo, hSg, hHv, hGn⟩ := id hI
  obtain ⟨hB, hC, hS, -, -⟩ := id hQ
  obtain ⟨hs, ⟨hn1, hn2⟩, e1, e2, e3, e5⟩ := id hB
  have hr := mt_rd_or hs
  obtain ⟨k1, k2⟩ := hk
  obtain ⟨u1, u2⟩ := hu
  obtain ⟨v1, v2⟩ := hv
  obtain ⟨x1, x2⟩ := hx
  obtain ⟨y1, y2⟩ := hy
  obtain ⟨w1, w2⟩ := hw
  have mu := mt_mod hn1 u
  have mv := mt_mod hn1 v
  have mx := mt_mod hn1 x
  have my := mt_mod hn1 y
  have htg := mt_tg_bd (s := s) (k := k) (u := u % n) (v := v % n) (x := x % n) (y := y % n) hn1 hn2
  have hif : ((if 0 ≤ k ∧ k < 2 * mt_rd s then (1 : Int) else 0) = 1 ∧ (0 ≤ k ∧ k < 2 * mt_rd s)) ∨ ((if 0 ≤ k ∧ k < 2 * mt_rd s then (1 : Int) else 0) = 0 ∧ ¬ (0 ≤ k ∧ k < 2 * mt_rd s)) := by split <;> simp_all
  refine pg_Sem_of pm_P_goes_f rfl ?_
  refine pg_ca 3 (L := []) (Mc := pm_M_isLinear) (as := [.inr (.inr 4), .inl k]) (h0 := h) (pc := 8) (lv := [(0, .inr (.inr 0)), (1, .inl k), (2, .inl u), (3, .inl v), (4, .inl x), (5, .inl y), (6, .inl w)]) (rest := []) rfl trivial (cm_isLinear hB k ⟨by omega, by omega⟩) ?_
  intro r_1 h_1 e_1; rw [e_1.1, e_1.2]
  refine pg_br 0 (L := []) (P := pg_inR (if 0 ≤ k ∧ k < 2 * mt_rd s then 1 else 0)) (c := (if 0 ≤ k ∧ k < 2 * mt_rd s then 1 else 0) = 0) (st1 := (22, [(0, .inr (.inr 0)), (1, .inl k), (2, .inl u), (3, .inl v), (4, .inl x), (5, .inl y), (6, .inl w)], [], h)) (st2 := (11, [(0, .inr (.inr 0)), (1, .inl k), (2, .inl u), (3, .inl v), (4, .inl x), (5, .inl y), (6, .inl w)], [], h)) rfl trivial ⟨by omega, by omega⟩ (fun c_8_1 => ?_) (fun c_8_1 => ?_)
  · refine pg_re 1 (L := []) (r := some (.inl (-2))) (h0 := h) rfl trivial ?_
    refine ⟨?_, ci_q0 hI⟩
    first | rw [if_neg (by omega)] | rw [if_pos (by omega), if_pos (by omega)] | rw [if_pos (by omega), if_neg (by omega)]
  · refine pg_br 1 (L := []) (P := pg_inR w) (c := w < 0) (st1 := (22, [(0, .inr (.inr 0)), (1, .inl k), (2, .inl u), (3, .inl v), (4, .inl x), (5, .inl y), (6, .inl w)], [], h)) (st2 := (16, [(0, .inr (.inr 0)), (1, .inl k), (2, .inl u), (3, .inl v), (4, .inl x), (5, .inl y), (6, .inl w)], [], h)) rfl trivial ⟨by omega, by omega⟩ (fun c_13_2 => ?_) (fun c_13_2 => ?_)
    · refine pg_re 1 (L := []) (r := some (.inl (-2))) (h0 := h) rfl trivial ?_
      refine ⟨?_, ci_q0 hI⟩
      first | rw [if_neg (by omega)] | rw [if_pos (by omega), if_pos (by omega)] | rw [if_pos (by omega), if_neg (by omega)]
    · refine pg_br 2 (L := []) (P := pg_inR w ∧ pg_inR 1) (c := w ≤ 1) (st1 := (25, [(0, .inr (.inr 0)), (1, .inl k), (2, .inl u), (3, .inl v), (4, .inl x), (5, .inl y), (6, .inl w)], [], h)) (st2 := (22, [(0, .inr (.inr 0)), (1, .inl k), (2, .inl u), (3, .inl v), (4, .inl x), (5, .inl y), (6, .inl w)], [], h)) rfl trivial ⟨⟨by omega, by omega⟩, ⟨by decide, by decide⟩⟩ (fun c_19_3 => ?_) (fun c_19_3 => ?_)
      · refine pg_ca 6 (L := []) (Mc := pm_M_wrap) (as := [.inr (.inr 4), .inl u]) (h0 := h) (pc := 38) (lv := [(0, .inr (.inr 0)), (1, .inl k), (2, .inl u), (3, .inl v), (4, .inl x), (5, .inl y), (6, .inl w)]) (rest := [.inl k, .inr (.inr 4)]) rfl trivial (cm_wrap hB u ⟨by omega, by omega⟩) ?_
        intro r_1 h_1 e_1; rw [e_1.1, e_1.2]
        refine pg_ca 3 (L := []) (Mc := pm_M_wrap) (as := [.inr (.inr 4), .inl v]) (h0 := h) (pc := 46) (lv := [(0, .inr (.inr 0)), (1, .inl k), (2, .inl u), (3, .inl v), (4, .inl x), (5, .inl y), (6, .inl w)]) (rest := [.inl (u % n), .inl k, .inr (.inr 4)]) rfl trivial (cm_wrap hB v ⟨by omega, by omega⟩) ?_
        intro r_1 h_1 e_1; rw [e_1.1, e_1.2]
        refine pg_ca 3 (L := []) (Mc := pm_M_wrap) (as := [.inr (.inr 4), .inl x]) (h0 := h) (pc := 55) (lv := [(0, .inr (.inr 0)), (1, .inl k), (2, .inl u), (3, .inl v), (4, .inl x), (5, .inl y), (6, .inl w)]) (rest := [.inl (v % n), .inl (u % n), .inl k, .inr (.inr 4)]) rfl trivial (cm_wrap hB x ⟨by omega, by omega⟩) ?_
        intro r_1 h_1 e_1; rw [e_1.1, e_1.2]
        refine pg_ca 3 (L := []) (Mc := pm_M_wrap) (as := [.inr (.inr 4), .inl y]) (h0 := h) (pc := 64) (lv := [(0, .inr (.inr 0)), (1, .inl k), (2, .inl u), (3, .inl v), (4, .inl x), (5, .inl y), (6, .inl w)]) (rest := [.inl (x % n), .inl (v % n), .inl (u % n), .inl k, .inr (.inr 4)]) rfl trivial (cm_wrap hB y ⟨by omega, by omega⟩) ?_
        intro r_1 h_1 e_1; rw [e_1.1, e_1.2]
        refine pg_ca 0 (L := []) (Mc := pm_M_target) (as := [.inr (.inr 4), .inl k, .inl (u % n), .inl (v % n), .inl (x % n), .inl (y % n)]) (h0 := h) (pc := 67) (lv := [(0, .inr (.inr 0)), (1, .inl k), (2, .inl u), (3, .inl v), (4, .inl x), (5, .inl y), (6, .inl w)]) (rest := []) rfl trivial (cm_target hB k (u % n) (v % n) (x % n) (y % n) ⟨by omega, by omega⟩ ⟨by omega, by omega⟩ ⟨by omega, by omega⟩ ⟨by omega, by omega⟩ ⟨by omega, by omega⟩) ?_
        intro r_1 h_1 e_1; rw [e_1.1, e_1.2]
        refine pg_br 2 (L := []) (P := pg_inR w) (c := ¬ w = 0) (st1 := (86, [(0, .inr (.inr 0)), (1, .inl k), (2, .inl u), (3, .inl v), (4, .inl x), (5, .inl y), (6, .inl w), (7, .inl (mt_tg s n k (u % n) (v % n) (x % n) (y % n)))], [], h)) (st2 := (74, [(0, .inr (.inr 0)), (1, .inl k), (2, .inl u), (3, .inl v), (4, .inl x), (5, .inl y), (6, .inl w), (7, .inl (mt_tg s n k (u % n) (v % n) (x % n) (y % n)))], [], h)) rfl trivial ⟨by omega, by omega⟩ (fun c_71_4 => ?_) (fun c_71_4 => ?_)
        · refine pg_ca 3 (L := []) (Mc := pm_M_rowOf) (as := [.inr (.inr 4), .inl (mt_tg s n k (u % n) (v % n) (x % n) (y % n))]) (h0 := h) (pc := 95) (lv := [(0, .inr (.inr 0)), (1, .inl k), (2, .inl u), (3, .inl v), (4, .inl x), (5, .inl y), (6, .inl w), (7, .inl (mt_tg s n k (u % n) (v % n) (x % n) (y % n)))]) (rest := []) rfl trivial (cm_rowOf hB (mt_tg s n k (u % n) (v % n) (x % n) (y % n)) ⟨by omega, by omega⟩) ?_
          intro r_1 h_1 e_1; rw [e_1.1, e_1.2]
          refine pg_re 0 (L := []) (r := some (.inl ((mt_tg s n k (u % n) (v % n) (x % n) (y % n)) / n))) (h0 := h) rfl trivial ?_
          refine ⟨?_, ci_q0 hI⟩
          first | rw [if_neg (by omega)] | rw [if_pos (by omega), if_pos (by omega)] | rw [if_pos (by omega), if_neg (by omega)]
        · refine pg_ca 3 (L := []) (Mc := pm_M_columnOf) (as := [.inr (.inr 4), .inl (mt_tg s n k (u % n) (v % n) (x % n) (y % n))]) (h0 := h) (pc := 83) (lv := [(0, .inr (.inr 0)), (1, .inl k), (2, .inl u), (3, .inl v), (4, .inl x), (5, .inl y), (6, .inl w), (7, .inl (mt_tg s n k (u % n) (v % n) (x % n) (y % n)))]) (rest := []) rfl trivial (cm_columnOf hB (mt_tg s n k (u % n) (v % n) (x % n) (y % n)) ⟨by omega, by omega⟩) ?_
          intro r_1 h_1 e_1; rw [e_1.1, e_1.2]
          refine pg_re 1 (L := []) (r := some (.inl ((mt_tg s n k (u % n) (v % n) (x % n) (y % n)) % n))) (h0 := h) rfl trivial ?_
          refine ⟨?_, ci_q0 hI⟩
          first | rw [if_neg (by omega)] | rw [if_pos (by omega), if_pos (by omega)] | rw [if_pos (by omega), if_neg (by omega)]
      · refine pg_re 1 (L := []) (r := some (.inl (-2))) (h0 := h) rfl trivial ?_
        refine ⟨?_, ci_q0 hI⟩
        first | rw [if_neg (by omega)] | rw [if_pos (by omega), if_pos (by omega)] | rw [if_pos (by omega), if_neg (by omega)]
theorem mt_cdb {s n k u v : Int} (hn : 1 ≤ n ∧ n ≤ 12) (hk : 0 ≤ k ∧ k < 2 * mt_rd s) : 0 ≤ mt_cd n k u v ∧ mt_cd n k u v < 2 * mt_rd s * (n * n) := by
  unfold mt_cd
  exact mt_cd_lt hn hk (mt_mod hn.1 u) (mt_mod hn.1 v)
set_option maxHeartbeats 4000000 in
theorem ct_both {h : pg_H} {s n : Int} (hI : ci_I h s n) (k : Int) (hk : pg_inR k) (u : Int) (hu : pg_inR u) (v : Int) (hv : pg_inR v) (j : Int) (hj : pg_inR j) (x : Int) (hx : pg_inR x) (y : Int) (hy : pg_inR y) (w : Int) (hw : pg_inR w) : pg_Sem true pm_P_both [.inr (.inr 0), .inl k, .inl u, .inl v, .inl j, .inl x, .inl y, .inl w] h (fun r h' => r = some (.inl (if (0 ≤ k ∧ k < 2 * mt_rd s) ∧ (0 ≤ j ∧ j < 2 * mt_rd s) ∧ 0 ≤ w ∧ w ≤ 2 then (if w = 0 then mt_pr s n (mt_cd n k u v) (mt_cd n j x y) / (n * n) else if w = 1 then mt_pr s n (mt_cd n k u v) (mt_cd n j x y) / n % n else mt_pr s n (mt_cd n k u v) (mt_cd n j x y) % n) else -2)) ∧ ci_Q h h' s n) := by
  obtain ⟨hQ, hRc, hPo, hSg, hHv, hGn⟩ := id hI
  obtain ⟨hB, hC, hS, -, -⟩ := id hQ
  obtain ⟨hs, ⟨hn1, hn2⟩, e1, e2, e3, e5⟩ := id hB
  have hr := mt_rd_or hs
  obtain ⟨k1, k2⟩ := hk
  obtain ⟨u1, u2⟩ := hu
  obtain ⟨v1, v2⟩ := hv
  obtain ⟨j1, j2⟩ := hj
  obtain ⟨x1, x2⟩ := hx
  obtain ⟨y1, y2⟩ := hy
  obtain ⟨w1, w2⟩ := hw
  have hif1 : ((if 0 ≤ k ∧ k < 2 * mt_rd s then (1 : Int) else 0) = 1 ∧ (0 ≤ k ∧ k < 2 * mt_rd s)) ∨ ((if 0 ≤ k ∧ k < 2 * mt_rd s then (1 : Int) else 0) = 0 ∧ ¬ (0 ≤ k ∧ k < 2 * mt_rd s)) := by split <;> simp_all
  have hif2 : ((if 0 ≤ j ∧ j < 2 * mt_rd s then (1 : Int) else 0) = 1 ∧ (0 ≤ j ∧ j < 2 * mt_rd s)) ∨ ((if 0 ≤ j ∧ j < 2 * mt_rd s then (1 : Int) else 0) = 0 ∧ ¬ (0 ≤ j ∧ j < 2 * mt_rd s)) := by split <;> simp_all
  have hif3 : ((if 0 ≤ w ∧ w ≤ 2 then (1 : Int) else 0) = 1 ∧ (0 ≤ w ∧ w ≤ 2)) ∨ ((if 0 ≤ w ∧ w ≤ 2 then (1 : Int) else 0) = 0 ∧ ¬ (0 ≤ w ∧ w ≤ 2)) := by split <;> simp_all
  refine pg_Sem_of pm_P_both_f rfl ?_
  refine pg_ca 3 (L := []) (Mc := pm_M_isLinear) (as := [.inr (.inr 4), .inl k]) (h0 := h) (pc := 8) (lv := [(0, .inr (.inr 0)), (1, .inl k), (2, .inl u), (3, .inl v), (4, .inl j), (5, .inl x), (6, .inl y), (7, .inl w)]) (rest := []) rfl trivial (cm_isLinear hB k ⟨by omega, by omega⟩) ?_
  intro r_1 h_1 e_1; rw [e_1.1, e_1.2]
  refine pg_br 0 (L := []) (P := pg_inR (if 0 ≤ k ∧ k < 2 * mt_rd s then 1 else 0)) (c := (if 0 ≤ k ∧ k < 2 * mt_rd s then 1 else 0) = 0) (st1 := (31, [(0, .inr (.inr 0)), (1, .inl k), (2, .inl u), (3, .inl v), (4, .inl j), (5, .inl x), (6, .inl y), (7, .inl w)], [], h)) (st2 := (11, [(0, .inr (.inr 0)), (1, .inl k), (2, .inl u), (3, .inl v), (4, .inl j), (5, .inl x), (6, .inl y), (7, .inl w)], [], h)) rfl trivial ⟨by omega, by omega⟩ (fun c_8_1 => ?_) (fun c_8_1 => ?_)
  · refine pg_re 1 (L := []) (r := some (.inl (-2))) (h0 := h) rfl trivial ?_
    refine ⟨?_, ci_q0 hI⟩
    first | rw [if_neg (show ¬ ((0 ≤ k ∧ k < 2 * mt_rd s) ∧ (0 ≤ j ∧ j < 2 * mt_rd s) ∧ 0 ≤ w ∧ w ≤ 2) by omega)] | rw [if_pos (show (0 ≤ k ∧ k < 2 * mt_rd s) ∧ (0 ≤ j ∧ j < 2 * mt_rd s) ∧ 0 ≤ w ∧ w ≤ 2 by omega)]
  · refine pg_ca 3 (L := []) (Mc := pm_M_isLinear) (as := [.inr (.inr 4), .inl j]) (h0 := h) (pc := 20) (lv := [(0, .inr (.inr 0)), (1, .inl k), (2, .inl u), (3, .inl v), (4, .inl j), (5, .inl x), (6, .inl y), (7, .inl w)]) (rest := []) rfl trivial (cm_isLinear hB j ⟨by omega, by omega⟩) ?_
    intro r_1 h_1 e_1; rw [e_1.1, e_1.2]
    refine pg_br 0 (L := []) (P := pg_inR (if 0 ≤ j ∧ j < 2 * mt_rd s then 1 else 0)) (c := (if 0 ≤ j ∧ j < 2 * mt_rd s then 1 else 0) = 0) (st1 := (31, [(0, .inr (.inr 0)), (1, .inl k), (2, .inl u), (3, .inl v), (4, .inl j), (5, .inl x), (6, .inl y), (7, .inl w)], [], h)) (st2 := (23, [(0, .inr (.inr 0)), (1, .inl k), (2, .inl u), (3, .inl v), (4, .inl j), (5, .inl x), (6, .inl y), (7, .inl w)], [], h)) rfl trivial ⟨by omega, by omega⟩ (fun c_20_2 => ?_) (fun c_20_2 => ?_)
    · refine pg_re 1 (L := []) (r := some (.inl (-2))) (h0 := h) rfl trivial ?_
      refine ⟨?_, ci_q0 hI⟩
      first | rw [if_neg (show ¬ ((0 ≤ k ∧ k < 2 * mt_rd s) ∧ (0 ≤ j ∧ j < 2 * mt_rd s) ∧ 0 ≤ w ∧ w ≤ 2) by omega)] | rw [if_pos (show (0 ≤ k ∧ k < 2 * mt_rd s) ∧ (0 ≤ j ∧ j < 2 * mt_rd s) ∧ 0 ≤ w ∧ w ≤ 2 by omega)]
    · refine pg_ca 1 (L := []) (Mc := pm_P_isPartOfMove) (as := [.inl w]) (h0 := h) (pc := 28) (lv := [(0, .inr (.inr 0)), (1, .inl k), (2, .inl u), (3, .inl v), (4, .inl j), (5, .inl x), (6, .inl y), (7, .inl w)]) (rest := []) rfl trivial (ct_isPart h w ⟨by omega, by omega⟩) ?_
      intro r_1 h_1 e_1; rw [e_1.1, e_1.2]
      refine pg_br 0 (L := []) (P := pg_inR (if 0 ≤ w ∧ w ≤ 2 then 1 else 0)) (c := ¬ (if 0 ≤ w ∧ w ≤ 2 then 1 else 0) = 0) (st1 := (34, [(0, .inr (.inr 0)), (1, .inl k), (2, .inl u), (3, .inl v), (4, .inl j), (5, .inl x), (6, .inl y), (7, .inl w)], [], h)) (st2 := (31, [(0, .inr (.inr 0)), (1, .inl k), (2, .inl u), (3, .inl v), (4, .inl j), (5, .inl x), (6, .inl y), (7, .inl w)], [], h)) rfl trivial ⟨by omega, by omega⟩ (fun c_28_3 => ?_) (fun c_28_3 => ?_)
      · refine pg_ca 9 (L := []) (Mc := pm_M_code) (as := [.inr (.inr 4), .inl k, .inl u, .inl v]) (h0 := h) (pc := 52) (lv := [(0, .inr (.inr 0)), (1, .inl k), (2, .inl u), (3, .inl v), (4, .inl j), (5, .inl x), (6, .inl y), (7, .inl w)]) (rest := [.inr (.inr 4), .inr (.inr 4)]) rfl trivial (cm_code hB k u v ⟨by omega, by omega⟩ ⟨by omega, by omega⟩) ?_
        intro r_1 h_1 e_1; rw [e_1.1, e_1.2]
        refine pg_ca 5 (L := []) (Mc := pm_M_code) (as := [.inr (.inr 4), .inl j, .inl x, .inl y]) (h0 := h) (pc := 65) (lv := [(0, .inr (.inr 0)), (1, .inl k), (2, .inl u), (3, .inl v), (4, .inl j), (5, .inl x), (6, .inl y), (7, .inl w)]) (rest := [.inl (mt_cd n k u v), .inr (.inr 4), .inr (.inr 4)]) rfl trivial (cm_code hB j x y ⟨by omega, by omega⟩ ⟨by omega, by omega⟩) ?_
        intro r_1 h_1 e_1; rw [e_1.1, e_1.2]
        refine pg_ca 0 (L := []) (Mc := pm_M_product) (as := [.inr (.inr 4), .inl (mt_cd n k u v), .inl (mt_cd n j x y)]) (h0 := h) (pc := 68) (lv := [(0, .inr (.inr 0)), (1, .inl k), (2, .inl u), (3, .inl v), (4, .inl j), (5, .inl x), (6, .inl y), (7, .inl w)]) (rest := [.inr (.inr 4)]) rfl trivial (cm_product hB (mt_cd n k u v) (mt_cd n j x y) (mt_cdb ⟨hn1, hn2⟩ (by omega)) (mt_cdb ⟨hn1, hn2⟩ (by omega))) ?_
        intro r_1 h_1 e_1; rw [e_1.1, e_1.2]
        have hpb := mt_2rd hs ⟨hn1, hn2⟩ (mt_pr_bd hs ⟨hn1, hn2⟩ (a := (mt_cd n k u v)) (b := (mt_cd n j x y)) (mt_cdb ⟨hn1, hn2⟩ (by omega)) (mt_cdb ⟨hn1, hn2⟩ (by omega)))
        refine pg_ca 1 (L := []) (Mc := pm_M_part) (as := [.inr (.inr 4), .inl (mt_pr s n (mt_cd n k u v) (mt_cd n j x y)), .inl w]) (h0 := h) (pc := 73) (lv := [(0, .inr (.inr 0)), (1, .inl k), (2, .inl u), (3, .inl v), (4, .inl j), (5, .inl x), (6, .inl y), (7, .inl w)]) (rest := []) rfl trivial (cm_part hB (mt_pr s n (mt_cd n k u v) (mt_cd n j x y)) w ⟨by omega, by omega⟩ ⟨by omega, by omega⟩) ?_
        intro r_1 h_1 e_1; rw [e_1.1, e_1.2]
        refine pg_re 0 (L := []) (r := some (.inl (if w = 0 then (mt_pr s n (mt_cd n k u v) (mt_cd n j x y)) / (n * n) else if w = 1 then (mt_pr s n (mt_cd n k u v) (mt_cd n j x y)) / n % n else (mt_pr s n (mt_cd n k u v) (mt_cd n j x y)) % n))) (h0 := h) rfl trivial ?_
        refine ⟨?_, ci_q0 hI⟩
        first | rw [if_neg (show ¬ ((0 ≤ k ∧ k < 2 * mt_rd s) ∧ (0 ≤ j ∧ j < 2 * mt_rd s) ∧ 0 ≤ w ∧ w ≤ 2) by omega)] | rw [if_pos (show (0 ≤ k ∧ k < 2 * mt_rd s) ∧ (0 ≤ j ∧ j < 2 * mt_rd s) ∧ 0 ≤ w ∧ w ≤ 2 by omega)]
      · refine pg_re 1 (L := []) (r := some (.inl (-2))) (h0 := h) rfl trivial ?_
        refine ⟨?_, ci_q0 hI⟩
        first | rw [if_neg (show ¬ ((0 ≤ k ∧ k < 2 * mt_rd s) ∧ (0 ≤ j ∧ j < 2 * mt_rd s) ∧ 0 ≤ w ∧ w ≤ 2) by omega)] | rw [if_pos (show (0 ≤ k ∧ k < 2 * mt_rd s) ∧ (0 ≤ j ∧ j < 2 * mt_rd s) ∧ 0 ≤ w ∧ w ≤ 2 by omega)]
theorem mt_li_bd {s k : Int} (hs : s = 0 ∨ s = 1) (hk : 0 ≤ k ∧ k < 2 * mt_rd s) : 0 ≤ mt_li s k ∧ mt_li s k < 2 * mt_rd s := by
  have hr := mt_rd_or hs
  unfold mt_li
  split <;> omega
theorem mt_iv_bd {s n a : Int} (hs : s = 0 ∨ s = 1) (hn : 1 ≤ n ∧ n ≤ 12) (ha : 0 ≤ a ∧ a < 2 * mt_rd s * (n * n)) : 0 ≤ mt_iv s n a ∧ mt_iv s n a < 2 * mt_rd s * (n * n) := by
  unfold mt_iv
  exact mt_cdb hn (mt_li_bd hs (mt_kof hn.1 ha))
set_option maxHeartbeats 4000000 in
theorem ct_back {h : pg_H} {s n : Int} (hI : ci_I h s n) (k : Int) (hk : pg_inR k) (u : Int) (hu : pg_inR u) (v : Int) (hv : pg_inR v) (w : Int) (hw : pg_inR w) : pg_Sem true pm_P_back [.inr (.inr 0), .inl k, .inl u, .inl v, .inl w] h (fun r h' => r = some (.inl (if (0 ≤ k ∧ k < 2 * mt_rd s) ∧ 0 ≤ w ∧ w ≤ 2 then (if w = 0 then mt_iv s n (mt_cd n k u v) / (n * n) else if w = 1 then mt_iv s n (mt_cd n k u v) / n % n else mt_iv s n (mt_cd n k u v) % n) else -2)) ∧ ci_Q h h' s n) := by
  obtain ⟨hQ, hRc, hPo, hSg, hHv, hGn⟩ := id hI
  obtain ⟨hB, hC, hS, -, -⟩ := id hQ
  obtain ⟨hs, ⟨hn1, hn2⟩, e1, e2, e3, e5⟩ := id hB
  have hr := mt_rd_or hs
  obtain ⟨k1, k2⟩ := hk
  obtain ⟨u1, u2⟩ := hu
  obtain ⟨v1, v2⟩ := hv
  obtain ⟨w1, w2⟩ := hw
  have hif1 : ((if 0 ≤ k ∧ k < 2 * mt_rd s then (1 : Int) else 0) = 1 ∧ (0 ≤ k ∧ k < 2 * mt_rd s)) ∨ ((if 0 ≤ k ∧ k < 2 * mt_rd s then (1 : Int) else 0) = 0 ∧ ¬ (0 ≤ k ∧ k < 2 * mt_rd s)) := by split <;> simp_all
  have hif3 : ((if 0 ≤ w ∧ w ≤ 2 then (1 : Int) else 0) = 1 ∧ (0 ≤ w ∧ w ≤ 2)) ∨ ((if 0 ≤ w ∧ w ≤ 2 then (1 : Int) else 0) = 0 ∧ ¬ (0 ≤ w ∧ w ≤ 2)) := by split <;> simp_all
  refine pg_Sem_of pm_P_back_f rfl ?_
  refine pg_ca 3 (L := []) (Mc := pm_M_isLinear) (as := [.inr (.inr 4), .inl k]) (h0 := h) (pc := 8) (lv := [(0, .inr (.inr 0)), (1, .inl k), (2, .inl u), (3, .inl v), (4, .inl w)]) (rest := []) rfl trivial (cm_isLinear hB k ⟨by omega, by omega⟩) ?_
  intro r_1 h_1 e_1; rw [e_1.1, e_1.2]
  refine pg_br 0 (L := []) (P := pg_inR (if 0 ≤ k ∧ k < 2 * mt_rd s then 1 else 0)) (c := (if 0 ≤ k ∧ k < 2 * mt_rd s then 1 else 0) = 0) (st1 := (19, [(0, .inr (.inr 0)), (1, .inl k), (2, .inl u), (3, .inl v), (4, .inl w)], [], h)) (st2 := (11, [(0, .inr (.inr 0)), (1, .inl k), (2, .inl u), (3, .inl v), (4, .inl w)], [], h)) rfl trivial ⟨by omega, by omega⟩ (fun c_8_1 => ?_) (fun c_8_1 => ?_)
  · refine pg_re 1 (L := []) (r := some (.inl (-2))) (h0 := h) rfl trivial ?_
    refine ⟨?_, ci_q0 hI⟩
    first | rw [if_neg (show ¬ ((0 ≤ k ∧ k < 2 * mt_rd s) ∧ 0 ≤ w ∧ w ≤ 2) by omega)] | rw [if_pos (show (0 ≤ k ∧ k < 2 * mt_rd s) ∧ 0 ≤ w ∧ w ≤ 2 by omega)]
  · refine pg_ca 1 (L := []) (Mc := pm_P_isPartOfMove) (as := [.inl w]) (h0 := h) (pc := 16) (lv := [(0, .inr (.inr 0)), (1, .inl k), (2, .inl u), (3, .inl v), (4, .inl w)]) (rest := []) rfl trivial (ct_isPart h w ⟨by omega, by omega⟩) ?_
    intro r_1 h_1 e_1; rw [e_1.1, e_1.2]
    refine pg_br 0 (L := []) (P := pg_inR (if 0 ≤ w ∧ w ≤ 2 then 1 else 0)) (c := ¬ (if 0 ≤ w ∧ w ≤ 2 then 1 else 0) = 0) (st1 := (22, [(0, .inr (.inr 0)), (1, .inl k), (2, .inl u), (3, .inl v), (4, .inl w)], [], h)) (st2 := (19, [(0, .inr (.inr 0)), (1, .inl k), (2, .inl u), (3, .inl v), (4, .inl w)], [], h)) rfl trivial ⟨by omega, by omega⟩ (fun c_16_2 => ?_) (fun c_16_2 => ?_)
    · refine pg_ca 9 (L := []) (Mc := pm_M_code) (as := [.inr (.inr 4), .inl k, .inl u, .inl v]) (h0 := h) (pc := 40) (lv := [(0, .inr (.inr 0)), (1, .inl k), (2, .inl u), (3, .inl v), (4, .inl w)]) (rest := [.inr (.inr 4), .inr (.inr 4)]) rfl trivial (cm_code hB k u v ⟨by omega, by omega⟩ ⟨by omega, by omega⟩) ?_
      intro r_1 h_1 e_1; rw [e_1.1, e_1.2]
      refine pg_ca 0 (L := []) (Mc := pm_M_inverse) (as := [.inr (.inr 4), .inl (mt_cd n k u v)]) (h0 := h) (pc := 43) (lv := [(0, .inr (.inr 0)), (1, .inl k), (2, .inl u), (3, .inl v), (4, .inl w)]) (rest := [.inr (.inr 4)]) rfl trivial (cm_inverse hB (mt_cd n k u v) (mt_cdb ⟨hn1, hn2⟩ (by omega))) ?_
      intro r_1 h_1 e_1; rw [e_1.1, e_1.2]
      have hpb := mt_2rd hs ⟨hn1, hn2⟩ (mt_iv_bd hs ⟨hn1, hn2⟩ (a := (mt_cd n k u v)) (mt_cdb ⟨hn1, hn2⟩ (by omega)))
      refine pg_ca 1 (L := []) (Mc := pm_M_part) (as := [.inr (.inr 4), .inl (mt_iv s n (mt_cd n k u v)), .inl w]) (h0 := h) (pc := 48) (lv := [(0, .inr (.inr 0)), (1, .inl k), (2, .inl u), (3, .inl v), (4, .inl w)]) (rest := []) rfl trivial (cm_part hB (mt_iv s n (mt_cd n k u v)) w ⟨by omega, by omega⟩ ⟨by omega, by omega⟩) ?_
      intro r_1 h_1 e_1; rw [e_1.1, e_1.2]
      refine pg_re 0 (L := []) (r := some (.inl (if w = 0 then (mt_iv s n (mt_cd n k u v)) / (n * n) else if w = 1 then (mt_iv s n (mt_cd n k u v)) / n % n else (mt_iv s n (mt_cd n k u v)) % n))) (h0 := h) rfl trivial ?_
      refine ⟨?_, ci_q0 hI⟩
      first | rw [if_neg (show ¬ ((0 ≤ k ∧ k < 2 * mt_rd s) ∧ 0 ≤ w ∧ w ≤ 2) by omega)] | rw [if_pos (show (0 ≤ k ∧ k < 2 * mt_rd s) ∧ 0 ≤ w ∧ w ≤ 2 by omega)]
    · refine pg_re 1 (L := []) (r := some (.inl (-2))) (h0 := h) rfl trivial ?_
      refine ⟨?_, ci_q0 hI⟩
      first | rw [if_neg (show ¬ ((0 ≤ k ∧ k < 2 * mt_rd s) ∧ 0 ≤ w ∧ w ≤ 2) by omega)] | rw [if_pos (show (0 ≤ k ∧ k < 2 * mt_rd s) ∧ 0 ≤ w ∧ w ≤ 2 by omega)]
