/-! the class: more calls that ask -/
theorem ci_q2 {h g : pg_H} {s n : Int} (hI : ci_I h s n) (hf : pg_fr [10, 11, 12, 13, 14] h g) (he : sy_eq h g) (hJ : cq_J g s n) (hD : po_D g s n) (hk1 : g 13 4 = 1) : ci_Q h g s n := by
  obtain ⟨-, h2, h3, h4, h5, h6⟩ := hI
  have hk := sy_eq_k he
  exact ⟨⟨hJ.1, rc_I_fr hf (by decide) (by decide) (by decide) h2, Or.inr ⟨hk1, hJ.2.1, hD⟩, sg_I_fr he (hf 15 (by decide)) (hf 16 (by decide)) (hf 17 (by decide)) hk h4, hv_I_fr he (hf 18 (by decide)) hk h5, gn_I_fr (hf 20 (by decide)) (hf 21 (by decide)) h6⟩, hf 7 (by decide), hf 20 (by decide), hf 21 (by decide)⟩
theorem ci_q3 {h g : pg_H} {s n : Int} (hI : ci_I h s n) (hf : pg_fr [1, 2, 3, 10, 11, 12, 15, 16, 17] h g) (he : sy_eq h g) (hJ : cq_J g s n) (hRc : rc_I g) (hD : sg_D g s) (hk1 : g 15 11 = 1) : ci_Q h g s n := by
  obtain ⟨-, h2, h3, h4, h5, h6⟩ := hI
  have hk := sy_eq_k he
  exact ⟨⟨hJ.1, hRc, po_I_fr he (hf 13 (by decide)) (hf 14 (by decide)) hk h3, Or.inr ⟨hk1, hJ.2.1, hD⟩, hv_I_fr he (hf 18 (by decide)) hk h5, gn_I_fr (hf 20 (by decide)) (hf 21 (by decide)) h6⟩, hf 7 (by decide), hf 20 (by decide), hf 21 (by decide)⟩
theorem ci_q4 {h g : pg_H} {s n : Int} (hI : ci_I h s n) (hf : pg_fr [1, 2, 3, 10, 11, 12, 18, 19] h g) (he : sy_eq h g) (hJ : cq_J g s n) (hRc : rc_I g) (hD : hv_D g s n) (hk1 : g 18 6 = 1) : ci_Q h g s n := by
  obtain ⟨-, h2, h3, h4, h5, h6⟩ := hI
  have hk := sy_eq_k he
  exact ⟨⟨hJ.1, hRc, po_I_fr he (hf 13 (by decide)) (hf 14 (by decide)) hk h3, sg_I_fr he (hf 15 (by decide)) (hf 16 (by decide)) (hf 17 (by decide)) hk h4, Or.inr ⟨hk1, hJ.2.1, hD⟩, gn_I_fr (hf 20 (by decide)) (hf 21 (by decide)) h6⟩, hf 7 (by decide), hf 20 (by decide), hf 21 (by decide)⟩
theorem mt_img_sym {col : Nat → Int} {s n k u v : Int} {im : Nat → Int} (hn : 1 ≤ n ∧ n ≤ 12) (hC : ∀ p : Nat, p < 144 → 0 ≤ col p ∧ col p ≤ 9) (hI : mt_img col s n k u v im) : (∀ c : Nat, c < 10 → im c = -1 ∨ im c = c) ↔ mt_sym col s n k u v := by
  constructor
  · intro h x y h1 h2 h3 h4
    have hp := mt_pt_bd hn.1 hn.2 (x := x) (y := y) ⟨h1, h2⟩ ⟨h3, h4⟩
    have ht := mt_tg_bd (s := s) (k := k) (u := u) (v := v) (x := x) (y := y) hn.1 hn.2
    have c1 := hC (mt_pt n x y).toNat (by omega)
    have c2 := hC (mt_tg s n k u v x y).toNat (by omega)
    have h5 := hI.1 x y h1 h2 h3 h4
    have h6 := h (col (mt_pt n x y).toNat).toNat (by omega)
    omega
  · intro h c hc
    rcases Classical.em (∃ x y : Int, (0 ≤ x ∧ x < n) ∧ (0 ≤ y ∧ y < n) ∧ col (mt_pt n x y).toNat = c) with ⟨x, y, ⟨h1, h2⟩, ⟨h3, h4⟩, h5⟩ | hno
    · right
      have h6 := hI.1 x y h1 h2 h3 h4
      rw [← h x y h1 h2 h3 h4, h5] at h6
      exact h6
    · left
      exact hI.2 c hc (fun x y h1 h2 h3 h4 h5 => hno ⟨x, y, ⟨h1, h2⟩, ⟨h3, h4⟩, h5⟩)
theorem mt_img_bd {col : Nat → Int} {s n k u v : Int} {im : Nat → Int} (hn : 1 ≤ n ∧ n ≤ 12) (hC : ∀ p : Nat, p < 144 → 0 ≤ col p ∧ col p ≤ 9) (hI : mt_img col s n k u v im) : ∀ c : Nat, c < 10 → -1 ≤ im c ∧ im c ≤ 9 := by
  intro c hc
  rcases Classical.em (∃ x y : Int, (0 ≤ x ∧ x < n) ∧ (0 ≤ y ∧ y < n) ∧ col (mt_pt n x y).toNat = c) with ⟨x, y, ⟨h1, h2⟩, ⟨h3, h4⟩, h5⟩ | hno
  · have h6 := hI.1 x y h1 h2 h3 h4
    have ht := mt_tg_bd (s := s) (k := k) (u := u) (v := v) (x := x) (y := y) hn.1 hn.2
    have c2 := hC (mt_tg s n k u v x y).toNat (by omega)
    rw [h5] at h6
    have h6 : im c = _ := h6
    omega
  · have := hI.2 c hc (fun x y h1 h2 h3 h4 h5 => hno ⟨x, y, ⟨h1, h2⟩, ⟨h3, h4⟩, h5⟩)
    omega
set_option maxHeartbeats 4000000 in
theorem ct_is {h : pg_H} {s n : Int} (hI : ci_I h s n) (k : Int) (hk : pg_inR k) (u : Int) (hu : pg_inR u) (v : Int) (hv : pg_inR v) : pg_Sem true pm_P_is [.inr (.inr 0), .inl k, .inl u, .inl v] h (fun r h' => r = some (.inl (if 0 ≤ k ∧ k < 2 * mt_rd s then pg_if (mt_con (h 7) s n k (u % n) (v % n)) (pg_if (mt_sym (h 7) s n k (u % n) (v % n)) 1 2) 0 else -2)) ∧ ci_Q h h' s n) := by
  obtain ⟨hQ, hRc, hPo, hSg, hHv, hGn⟩ := id hI
  obtain ⟨hB, hC, hS, -, -⟩ := id hQ
  obtain ⟨hs, ⟨hn1, hn2⟩, e1, e2, e3, e5⟩ := id hB
  have hr := mt_rd_or hs
  obtain ⟨k1, k2⟩ := hk
  obtain ⟨u1, u2⟩ := hu
  obtain ⟨v1, v2⟩ := hv
  have mu := mt_mod hn1 u
  have mv := mt_mod hn1 v
  have hif1 : ((if 0 ≤ k ∧ k < 2 * mt_rd s then (1 : Int) else 0) = 1 ∧ (0 ≤ k ∧ k < 2 * mt_rd s)) ∨ ((if 0 ≤ k ∧ k < 2 * mt_rd s then (1 : Int) else 0) = 0 ∧ ¬ (0 ≤ k ∧ k < 2 * mt_rd s)) := by split <;> simp_all
  refine pg_Sem_of pm_P_is_f rfl ?_
  refine pg_ca 3 (L := []) (Mc := pm_M_isLinear) (as := [.inr (.inr 4), .inl k]) (h0 := h) (pc := 8) (lv := [(0, .inr (.inr 0)), (1, .inl k), (2, .inl u), (3, .inl v)]) (rest := []) rfl trivial (cm_isLinear hB k ⟨by omega, by omega⟩) ?_
  intro r_1 h_1 e_1; rw [e_1.1, e_1.2]
  refine pg_br 0 (L := []) (P := pg_inR (if 0 ≤ k ∧ k < 2 * mt_rd s then 1 else 0)) (c := ¬ (if 0 ≤ k ∧ k < 2 * mt_rd s then 1 else 0) = 0) (st1 := (14, [(0, .inr (.inr 0)), (1, .inl k), (2, .inl u), (3, .inl v)], [], h)) (st2 := (11, [(0, .inr (.inr 0)), (1, .inl k), (2, .inl u), (3, .inl v)], [], h)) rfl trivial ⟨by omega, by omega⟩ (fun c_8_1 => ?_) (fun c_8_1 => ?_)
  · refine pg_ca 6 (L := []) (Mc := pm_M_wrap) (as := [.inr (.inr 4), .inl u]) (h0 := h) (pc := 27) (lv := [(0, .inr (.inr 0)), (1, .inl k), (2, .inl u), (3, .inl v)]) (rest := [.inl k, .inr (.inr 6)]) rfl trivial (cm_wrap hB u ⟨by omega, by omega⟩) ?_
    intro r_1 h_1 e_1; rw [e_1.1, e_1.2]
    refine pg_ca 3 (L := []) (Mc := pm_M_wrap) (as := [.inr (.inr 4), .inl v]) (h0 := h) (pc := 35) (lv := [(0, .inr (.inr 0)), (1, .inl k), (2, .inl u), (3, .inl v)]) (rest := [.inl (u % n), .inl k, .inr (.inr 6)]) rfl trivial (cm_wrap hB v ⟨by omega, by omega⟩) ?_
    intro r_1 h_1 e_1; rw [e_1.1, e_1.2]
    refine pg_ca 0 (L := []) (Mc := pm_C_changes) (as := [.inr (.inr 6), .inl k, .inl (u % n), .inl (v % n)]) (h0 := h) (pc := 38) (lv := [(0, .inr (.inr 0)), (1, .inl k), (2, .inl u), (3, .inl v)]) (rest := []) rfl trivial (cp_changes hB hC (k := k) (u := (u % n)) (v := (v % n)) ⟨by omega, by omega⟩ ⟨by omega, by omega⟩ ⟨by omega, by omega⟩) ?_
    intro r_1 g e_1; obtain ⟨ef_, er_, eim_⟩ := e_1; rw [er_]
    have hbo := pg_b_or (mt_con (h 7) s n k (u % n) (v % n))
    refine pg_br 0 (L := []) (P := pg_inR (pg_b (mt_con (h 7) s n k (u % n) (v % n)))) (c := ¬ (pg_b (mt_con (h 7) s n k (u % n) (v % n))) = 0) (st1 := (43, [(0, .inr (.inr 0)), (1, .inl k), (2, .inl u), (3, .inl v)], [], g)) (st2 := (41, [(0, .inr (.inr 0)), (1, .inl k), (2, .inl u), (3, .inl v)], [], g)) rfl trivial ⟨by omega, by omega⟩ (fun c_38_2 => ?_) (fun c_38_2 => ?_)
    · have him : mt_img (h 7) s n k (u % n) (v % n) (g 9) := by
        rcases hbo with hq | hq
        · exact eim_ hq.1
        · omega
      have hgr := mt_img_bd ⟨hn1, hn2⟩ hC him
      have hgs := mt_img_sym ⟨hn1, hn2⟩ hC him
      refine pg_ca 2 (L := []) (Mc := pm_C_isSameImage) (as := [.inr (.inr 6)]) (h0 := g) (pc := 50) (lv := [(0, .inr (.inr 0)), (1, .inl k), (2, .inl u), (3, .inl v)]) (rest := []) rfl trivial (cp_same hgr) ?_
      intro r_1 h_1 e_1; rw [pg_b_iff hgs] at e_1; rw [e_1.1, e_1.2]
      have hbs := pg_b_or (mt_sym (h 7) s n k (u % n) (v % n))
      refine pg_br 0 (L := []) (P := pg_inR (pg_b (mt_sym (h 7) s n k (u % n) (v % n)))) (c := (pg_b (mt_sym (h 7) s n k (u % n) (v % n))) = 0) (st1 := (57, [(0, .inr (.inr 0)), (1, .inl k), (2, .inl u), (3, .inl v)], [], g)) (st2 := (53, [(0, .inr (.inr 0)), (1, .inl k), (2, .inl u), (3, .inl v)], [], g)) rfl trivial ⟨by omega, by omega⟩ (fun c_50_3 => ?_) (fun c_50_3 => ?_)
      · refine pg_re 1 (L := []) (r := some (.inl 2)) (h0 := g) rfl trivial ?_
        refine ⟨?_, ci_q9 hI ef_⟩
        rw [if_pos (show 0 ≤ k ∧ k < 2 * mt_rd s by omega)]
        rcases hbo with ⟨b1, b2⟩ | ⟨b1, b2⟩
        · first | (exfalso; omega) | (rw [pg_if_t b1]; rcases hbs with ⟨d1, d2⟩ | ⟨d1, d2⟩; (· first | (exfalso; omega) | rw [pg_if_t d1]); (· first | (exfalso; omega) | rw [pg_if_f d1]))
        · first | (exfalso; omega) | rw [pg_if_f b1]
      · refine pg_re 2 (L := []) (r := some (.inl 1)) (h0 := g) rfl trivial ?_
        refine ⟨?_, ci_q9 hI ef_⟩
        rw [if_pos (show 0 ≤ k ∧ k < 2 * mt_rd s by omega)]
        rcases hbo with ⟨b1, b2⟩ | ⟨b1, b2⟩
        · first | (exfalso; omega) | (rw [pg_if_t b1]; rcases hbs with ⟨d1, d2⟩ | ⟨d1, d2⟩; (· first | (exfalso; omega) | rw [pg_if_t d1]); (· first | (exfalso; omega) | rw [pg_if_f d1]))
        · first | (exfalso; omega) | rw [pg_if_f b1]
    · refine pg_re 1 (L := []) (r := some (.inl 0)) (h0 := g) rfl trivial ?_
      refine ⟨?_, ci_q9 hI ef_⟩
      rw [if_pos (show 0 ≤ k ∧ k < 2 * mt_rd s by omega)]
      rcases hbo with ⟨b1, b2⟩ | ⟨b1, b2⟩
      · first | (exfalso; omega) | (rw [pg_if_t b1]; rcases hbs with ⟨d1, d2⟩ | ⟨d1, d2⟩; (· first | (exfalso; omega) | rw [pg_if_t d1]); (· first | (exfalso; omega) | rw [pg_if_f d1]))
      · first | (exfalso; omega) | rw [pg_if_f b1]
  · refine pg_re 1 (L := []) (r := some (.inl (-2))) (h0 := h) rfl trivial ?_
    refine ⟨?_, ci_q0 hI⟩
    rw [if_neg (show ¬ (0 ≤ k ∧ k < 2 * mt_rd s) by omega)]
set_option maxHeartbeats 4000000 in
theorem ct_change {h : pg_H} {s n : Int} (hI : ci_I h s n) (k : Int) (hk : pg_inR k) (u : Int) (hu : pg_inR u) (v : Int) (hv : pg_inR v) (c : Int) (hc : pg_inR c) : pg_Sem true pm_P_change [.inr (.inr 0), .inl k, .inl u, .inl v, .inl c] h (fun r h' => ∃ z : Int, r = some (.inl z) ∧ ci_Q h h' s n ∧ (¬ ((0 ≤ k ∧ k < 2 * mt_rd s) ∧ 0 ≤ c ∧ c ≤ 9) → z = -2) ∧ ((0 ≤ k ∧ k < 2 * mt_rd s) ∧ 0 ≤ c ∧ c ≤ 9 → (¬ mt_con (h 7) s n k (u % n) (v % n) → z = -1) ∧ (mt_con (h 7) s n k (u % n) (v % n) → ∃ im : Nat → Int, mt_img (h 7) s n k (u % n) (v % n) im ∧ z = im c.toNat))) := by
  obtain ⟨hQ, hRc, hPo, hSg, hHv, hGn⟩ := id hI
  obtain ⟨hB, hC, hS, -, -⟩ := id hQ
  obtain ⟨hs, ⟨hn1, hn2⟩, e1, e2, e3, e5⟩ := id hB
  have hr := mt_rd_or hs
  obtain ⟨k1, k2⟩ := hk
  obtain ⟨u1, u2⟩ := hu
  obtain ⟨v1, v2⟩ := hv
  obtain ⟨c1, c2⟩ := hc
  have mu := mt_mod hn1 u
  have mv := mt_mod hn1 v
  have hif1 : ((if 0 ≤ k ∧ k < 2 * mt_rd s then (1 : Int) else 0) = 1 ∧ (0 ≤ k ∧ k < 2 * mt_rd s)) ∨ ((if 0 ≤ k ∧ k < 2 * mt_rd s then (1 : Int) else 0) = 0 ∧ ¬ (0 ≤ k ∧ k < 2 * mt_rd s)) := by split <;> simp_all
  have hif3 : ((if 0 ≤ c ∧ c ≤ 9 then (1 : Int) else 0) = 1 ∧ (0 ≤ c ∧ c ≤ 9)) ∨ ((if 0 ≤ c ∧ c ≤ 9 then (1 : Int) else 0) = 0 ∧ ¬ (0 ≤ c ∧ c ≤ 9)) := by split <;> simp_all
  refine pg_Sem_of pm_P_change_f rfl ?_
  refine pg_ca 3 (L := []) (Mc := pm_M_isLinear) (as := [.inr (.inr 4), .inl k]) (h0 := h) (pc := 8) (lv := [(0, .inr (.inr 0)), (1, .inl k), (2, .inl u), (3, .inl v), (4, .inl c)]) (rest := []) rfl trivial (cm_isLinear hB k ⟨by omega, by omega⟩) ?_
  intro r_1 h_1 e_1; rw [e_1.1, e_1.2]
  refine pg_br 0 (L := []) (P := pg_inR (if 0 ≤ k ∧ k < 2 * mt_rd s then 1 else 0)) (c := (if 0 ≤ k ∧ k < 2 * mt_rd s then 1 else 0) = 0) (st1 := (19, [(0, .inr (.inr 0)), (1, .inl k), (2, .inl u), (3, .inl v), (4, .inl c)], [], h)) (st2 := (11, [(0, .inr (.inr 0)), (1, .inl k), (2, .inl u), (3, .inl v), (4, .inl c)], [], h)) rfl trivial ⟨by omega, by omega⟩ (fun c_8_1 => ?_) (fun c_8_1 => ?_)
  · refine pg_re 1 (L := []) (r := some (.inl (-2))) (h0 := h) rfl trivial ?_
    exact ⟨-2, rfl, ci_q0 hI, fun _ => rfl, fun hz => absurd hz (by omega)⟩
  · refine pg_ca 1 (L := []) (Mc := pm_P_isColour) (as := [.inl c]) (h0 := h) (pc := 16) (lv := [(0, .inr (.inr 0)), (1, .inl k), (2, .inl u), (3, .inl v), (4, .inl c)]) (rest := []) rfl trivial (ct_isColour h c ⟨by omega, by omega⟩) ?_
    intro r_1 h_1 e_1; rw [e_1.1, e_1.2]
    refine pg_br 0 (L := []) (P := pg_inR (if 0 ≤ c ∧ c ≤ 9 then 1 else 0)) (c := ¬ (if 0 ≤ c ∧ c ≤ 9 then 1 else 0) = 0) (st1 := (22, [(0, .inr (.inr 0)), (1, .inl k), (2, .inl u), (3, .inl v), (4, .inl c)], [], h)) (st2 := (19, [(0, .inr (.inr 0)), (1, .inl k), (2, .inl u), (3, .inl v), (4, .inl c)], [], h)) rfl trivial ⟨by omega, by omega⟩ (fun c_16_2 => ?_) (fun c_16_2 => ?_)
    · refine pg_ca 6 (L := []) (Mc := pm_M_wrap) (as := [.inr (.inr 4), .inl u]) (h0 := h) (pc := 35) (lv := [(0, .inr (.inr 0)), (1, .inl k), (2, .inl u), (3, .inl v), (4, .inl c)]) (rest := [.inl k, .inr (.inr 6)]) rfl trivial (cm_wrap hB u ⟨by omega, by omega⟩) ?_
      intro r_1 h_1 e_1; rw [e_1.1, e_1.2]
      refine pg_ca 3 (L := []) (Mc := pm_M_wrap) (as := [.inr (.inr 4), .inl v]) (h0 := h) (pc := 43) (lv := [(0, .inr (.inr 0)), (1, .inl k), (2, .inl u), (3, .inl v), (4, .inl c)]) (rest := [.inl (u % n), .inl k, .inr (.inr 6)]) rfl trivial (cm_wrap hB v ⟨by omega, by omega⟩) ?_
      intro r_1 h_1 e_1; rw [e_1.1, e_1.2]
      refine pg_ca 0 (L := []) (Mc := pm_C_changes) (as := [.inr (.inr 6), .inl k, .inl (u % n), .inl (v % n)]) (h0 := h) (pc := 46) (lv := [(0, .inr (.inr 0)), (1, .inl k), (2, .inl u), (3, .inl v), (4, .inl c)]) (rest := []) rfl trivial (cp_changes hB hC (k := k) (u := (u % n)) (v := (v % n)) ⟨by omega, by omega⟩ ⟨by omega, by omega⟩ ⟨by omega, by omega⟩) ?_
      intro r_1 g e_1; obtain ⟨ef_, er_, eim_⟩ := e_1; rw [er_]
      have hbo := pg_b_or (mt_con (h 7) s n k (u % n) (v % n))
      refine pg_br 0 (L := []) (P := pg_inR (pg_b (mt_con (h 7) s n k (u % n) (v % n)))) (c := (pg_b (mt_con (h 7) s n k (u % n) (v % n))) = 0) (st1 := (62, [(0, .inr (.inr 0)), (1, .inl k), (2, .inl u), (3, .inl v), (4, .inl c)], [], g)) (st2 := (49, [(0, .inr (.inr 0)), (1, .inl k), (2, .inl u), (3, .inl v), (4, .inl c)], [], g)) rfl trivial ⟨by omega, by omega⟩ (fun c_46_3 => ?_) (fun c_46_3 => ?_)
      · refine pg_re 1 (L := []) (r := some (.inl (-1))) (h0 := g) rfl trivial ?_
        refine ⟨_, rfl, ci_q9 hI ef_, fun hz => absurd (show (0 ≤ k ∧ k < 2 * mt_rd s) ∧ 0 ≤ c ∧ c ≤ 9 by omega) hz, fun _ => ?_⟩
        rcases hbo with ⟨b1, b2⟩ | ⟨b1, b2⟩
        · first | (exfalso; omega) | exact ⟨fun hz => absurd b1 hz, fun _ => ⟨g 9, eim_ b1, rfl⟩⟩
        · first | (exfalso; omega) | exact ⟨fun _ => rfl, fun hz => absurd hz b1⟩
      · refine pg_re 6 (L := [0 ≤ c ∧ c < (10 : Int)]) (r := some (.inl (g 9 c.toNat))) (h0 := g) rfl ⟨by omega, by omega⟩ ?_
        refine ⟨_, rfl, ci_q9 hI ef_, fun hz => absurd (show (0 ≤ k ∧ k < 2 * mt_rd s) ∧ 0 ≤ c ∧ c ≤ 9 by omega) hz, fun _ => ?_⟩
        rcases hbo with ⟨b1, b2⟩ | ⟨b1, b2⟩
        · first | (exfalso; omega) | exact ⟨fun hz => absurd b1 hz, fun _ => ⟨g 9, eim_ b1, rfl⟩⟩
        · first | (exfalso; omega) | exact ⟨fun _ => rfl, fun hz => absurd hz b1⟩
    · refine pg_re 1 (L := []) (r := some (.inl (-2))) (h0 := h) rfl trivial ?_
      exact ⟨-2, rfl, ci_q0 hI, fun _ => rfl, fun hz => absurd hz (by omega)⟩
theorem ct_base {h : pg_H} {s n : Int} (hI : ci_I h s n) (w : Int) (hw : pg_inR w) : pg_Sem true pm_P_base [.inr (.inr 0), .inl w] h (fun r h' => ci_Q h h' s n ∧ (¬ (0 ≤ w ∧ w ≤ 2) → r = some (.inl (-2))) ∧ (0 ≤ w ∧ w ≤ 2 → cq_J h' s n ∧ r = some (.inl (if w = 0 then h' 10 4 else if w = 1 then h' 10 5 else h' 10 6)))) := by
  obtain ⟨hQ, hRc, hPo, hSg, hHv, hGn⟩ := id hI
  obtain ⟨hB, hC, hS, -, -⟩ := id hQ
  obtain ⟨hs, ⟨hn1, hn2⟩, e1, e2, e3, e5⟩ := id hB
  have hr := mt_rd_or hs
  obtain ⟨w1, w2⟩ := hw
  refine pg_Sem_of pm_P_base_f rfl ?_
  refine pg_br 1 (L := []) (P := pg_inR w) (c := w < 0) (st1 := (9, [(0, .inr (.inr 0)), (1, .inl w)], [], h)) (st2 := (4, [(0, .inr (.inr 0)), (1, .inl w)], [], h)) rfl trivial ⟨by omega, by omega⟩ (fun c_1_1 => ?_) (fun c_1_1 => ?_)
  · refine pg_re 1 (L := []) (r := some (.inl (-2))) (h0 := h) rfl trivial ?_
    exact ⟨ci_q0 hI, fun _ => rfl, fun hz => absurd hz (by omega)⟩
  · refine pg_br 2 (L := []) (P := pg_inR w ∧ pg_inR 2) (c := w ≤ 2) (st1 := (12, [(0, .inr (.inr 0)), (1, .inl w)], [], h)) (st2 := (9, [(0, .inr (.inr 0)), (1, .inl w)], [], h)) rfl trivial ⟨⟨by omega, by omega⟩, ⟨by decide, by decide⟩⟩ (fun c_6_2 => ?_) (fun c_6_2 => ?_)
    · refine pg_ca 2 (L := []) (Mc := pm_S_study) (as := [.inr (.inr 10)]) (h0 := h) (pc := 19) (lv := [(0, .inr (.inr 0)), (1, .inl w)]) (rest := []) rfl trivial (cq_study hQ) ?_
      intro r_1 g e_1; obtain ⟨er_, ef_, hJ, hse⟩ := e_1; rw [er_]; have hRg := sy_R_of hs hn2 hJ.2.2; have hBg := hJ.1.1; have hq1 := ci_q1 hI (pg_fr_tr (pg_fr_rf _ _) ef_ (by decide)) hse hJ.1
      refine pg_br 1 (L := []) (P := pg_inR w) (c := ¬ w = 0) (st1 := (33, [(0, .inr (.inr 0)), (1, .inl w)], [], g)) (st2 := (23, [(0, .inr (.inr 0)), (1, .inl w)], [], g)) rfl trivial ⟨by omega, by omega⟩ (fun c_20_3 => ?_) (fun c_20_3 => ?_)
      · refine pg_br 2 (L := []) (P := pg_inR w ∧ pg_inR 1) (c := ¬ w = 1) (st1 := (48, [(0, .inr (.inr 0)), (1, .inl w)], [], g)) (st2 := (38, [(0, .inr (.inr 0)), (1, .inl w)], [], g)) rfl trivial ⟨⟨by omega, by omega⟩, ⟨by decide, by decide⟩⟩ (fun c_35_4 => ?_) (fun c_35_4 => ?_)
        · refine pg_re 3 (L := []) (r := some (.inl (g 10 6))) (h0 := g) rfl trivial ?_
          refine ⟨hq1, fun hz => absurd (show 0 ≤ w ∧ w ≤ 2 by omega) hz, fun _ => ⟨hJ, ?_⟩⟩
          first | rw [if_pos (by omega)] | rw [if_neg (by omega), if_pos (by omega)] | rw [if_neg (by omega), if_neg (by omega)]
        · refine pg_re 4 (L := []) (r := some (.inl (g 10 5))) (h0 := g) rfl trivial ?_
          refine ⟨hq1, fun hz => absurd (show 0 ≤ w ∧ w ≤ 2 by omega) hz, fun _ => ⟨hJ, ?_⟩⟩
          first | rw [if_pos (by omega)] | rw [if_neg (by omega), if_pos (by omega)] | rw [if_neg (by omega), if_neg (by omega)]
      · refine pg_re 4 (L := []) (r := some (.inl (g 10 4))) (h0 := g) rfl trivial ?_
        refine ⟨hq1, fun hz => absurd (show 0 ≤ w ∧ w ≤ 2 by omega) hz, fun _ => ⟨hJ, ?_⟩⟩
        first | rw [if_pos (by omega)] | rw [if_neg (by omega), if_pos (by omega)] | rw [if_neg (by omega), if_neg (by omega)]
    · refine pg_re 1 (L := []) (r := some (.inl (-2))) (h0 := h) rfl trivial ?_
      exact ⟨ci_q0 hI, fun _ => rfl, fun hz => absurd hz (by omega)⟩
theorem sy_N_bd {g : pg_H} {s n a z : Int} (hs : s = 0 ∨ s = 1) (hn : 1 ≤ n ∧ n ≤ 12) (hN : sy_N g s n a z) : z = -1 ∨ (0 ≤ z ∧ z < 2 * mt_rd s * (n * n) ∧ z < 5184) := by
  rcases hN with ⟨-, h⟩ | ⟨-, k, j, hk, -, -, -, ⟨m, -, -, -, h⟩ | ⟨-, h⟩⟩
  · exact Or.inl h
  · right
    rw [h]
    have h1 := mt_cdb (u := (m : Int) / n) (v := (m : Int) % n) hn hk
    exact ⟨h1.1, h1.2, (mt_2rd hs hn h1).2⟩
  · exact Or.inl h
set_option maxHeartbeats 4000000 in
theorem ct_symmetry {h : pg_H} {s n : Int} (hI : ci_I h s n) (a : Int) (ha : pg_inR a) (w : Int) (hw : pg_inR w) : pg_Sem true pm_P_symmetry [.inr (.inr 0), .inl a, .inl w] h (fun r h' => ci_Q h h' s n ∧ (¬ (0 ≤ w ∧ w ≤ 2) → r = some (.inl (-2))) ∧ (0 ≤ w ∧ w ≤ 2 → cq_J h' s n ∧ ∃ z : Int, sy_N h' s n a z ∧ r = some (.inl (if z = -1 then -1 else if w = 0 then z / (n * n) else if w = 1 then z / n % n else z % n)))) := by
  obtain ⟨hQ, hRc, hPo, hSg, hHv, hGn⟩ := id hI
  obtain ⟨hB, hC, hS, -, -⟩ := id hQ
  obtain ⟨hs, ⟨hn1, hn2⟩, e1, e2, e3, e5⟩ := id hB
  have hr := mt_rd_or hs
  obtain ⟨a1, a2⟩ := ha
  obtain ⟨w1, w2⟩ := hw
  have hif3 : ((if 0 ≤ w ∧ w ≤ 2 then (1 : Int) else 0) = 1 ∧ (0 ≤ w ∧ w ≤ 2)) ∨ ((if 0 ≤ w ∧ w ≤ 2 then (1 : Int) else 0) = 0 ∧ ¬ (0 ≤ w ∧ w ≤ 2)) := by split <;> simp_all
  refine pg_Sem_of pm_P_symmetry_f rfl ?_
  refine pg_ca 1 (L := []) (Mc := pm_P_isPartOfMove) (as := [.inl w]) (h0 := h) (pc := 4) (lv := [(0, .inr (.inr 0)), (1, .inl a), (2, .inl w)]) (rest := []) rfl trivial (ct_isPart h w ⟨by omega, by omega⟩) ?_
  intro r_1 h_1 e_1; rw [e_1.1, e_1.2]
  refine pg_br 0 (L := []) (P := pg_inR (if 0 ≤ w ∧ w ≤ 2 then 1 else 0)) (c := ¬ (if 0 ≤ w ∧ w ≤ 2 then 1 else 0) = 0) (st1 := (10, [(0, .inr (.inr 0)), (1, .inl a), (2, .inl w)], [], h)) (st2 := (7, [(0, .inr (.inr 0)), (1, .inl a), (2, .inl w)], [], h)) rfl trivial ⟨by omega, by omega⟩ (fun c_4_1 => ?_) (fun c_4_1 => ?_)
  · refine pg_ca 3 (L := []) (Mc := pm_S_numbered) (as := [.inr (.inr 10), .inl a]) (h0 := h) (pc := 18) (lv := [(0, .inr (.inr 0)), (1, .inl a), (2, .inl w)]) (rest := []) rfl trivial (cq_nb hQ a ⟨by omega, by omega⟩) ?_
    intro r_1 g e_1; obtain ⟨z_, er_, ef_, hJ, hse, hN_⟩ := e_1; rw [er_]; have hBg := hJ.1.1; have hq1 := ci_q1 hI (pg_fr_tr (pg_fr_rf _ _) ef_ (by decide)) hse hJ.1; have hzb := sy_N_bd hs ⟨hn1, hn2⟩ hN_
    refine pg_br 3 (L := []) (P := pg_inR z_ ∧ pg_inR (-1)) (c := ¬ z_ = (-1)) (st1 := (28, [(0, .inr (.inr 0)), (1, .inl a), (2, .inl w), (3, .inl z_)], [], g)) (st2 := (24, [(0, .inr (.inr 0)), (1, .inl a), (2, .inl w), (3, .inl z_)], [], g)) rfl trivial ⟨⟨by omega, by omega⟩, ⟨by decide, by decide⟩⟩ (fun c_21_2 => ?_) (fun c_21_2 => ?_)
    · refine pg_ca 4 (L := []) (Mc := pm_M_part) (as := [.inr (.inr 4), .inl z_, .inl w]) (h0 := g) (pc := 37) (lv := [(0, .inr (.inr 0)), (1, .inl a), (2, .inl w), (3, .inl z_)]) (rest := []) rfl trivial (cm_part hBg z_ w ⟨by omega, by omega⟩ ⟨by omega, by omega⟩) ?_
      intro r_1 h_1 e_1; rw [e_1.1, e_1.2]
      refine pg_re 0 (L := []) (r := some (.inl (if w = 0 then z_ / (n * n) else if w = 1 then z_ / n % n else z_ % n))) (h0 := g) rfl trivial ?_
      refine ⟨hq1, fun hz => absurd (show 0 ≤ w ∧ w ≤ 2 by omega) hz, fun _ => ⟨hJ, z_, hN_, ?_⟩⟩
      first | rw [if_pos (show z_ = -1 by omega)] | rw [if_neg (show ¬ z_ = -1 by omega)]
    · refine pg_re 2 (L := []) (r := some (.inl (-1))) (h0 := g) rfl trivial ?_
      refine ⟨hq1, fun hz => absurd (show 0 ≤ w ∧ w ≤ 2 by omega) hz, fun _ => ⟨hJ, z_, hN_, ?_⟩⟩
      first | rw [if_pos (show z_ = -1 by omega)] | rw [if_neg (show ¬ z_ = -1 by omega)]
  · refine pg_re 1 (L := []) (r := some (.inl (-2))) (h0 := h) rfl trivial ?_
    exact ⟨ci_q0 hI, fun _ => rfl, fun hz => absurd hz (by omega)⟩
theorem ct_ways {h : pg_H} {s n : Int} (hI : ci_I h s n) : pg_Sem true pm_P_ways [.inr (.inr 0)] h (fun r h' => ci_Q h h' s n ∧ ∃ (g : pg_H) (v : Int), pg_fr [10, 11, 12] h g ∧ cq_J g s n ∧ sy_V g s n v ∧ r = some (.inl (if g 10 7 * sy_sh g n < 1 then 1 else v / (g 10 7 * sy_sh g n)))) := by
  obtain ⟨hQ, hRc, hPo, hSg, hHv, hGn⟩ := id hI
  obtain ⟨hB, hC, hS, -, -⟩ := id hQ
  obtain ⟨hs, ⟨hn1, hn2⟩, e1, e2, e3, e5⟩ := id hB
  have hr := mt_rd_or hs
  refine pg_Sem_of pm_P_ways_f rfl ?_
  refine pg_ca 2 (L := []) (Mc := pm_S_colourWays) (as := [.inr (.inr 10)]) (h0 := h) (pc := 7) (lv := [(0, .inr (.inr 0))]) (rest := []) rfl trivial (cq_ways hQ) ?_
  intro r_1 g e_1; obtain ⟨g0, v_, w1_, w2_, w3_, er_, ef_, hJ, hse⟩ := e_1; rw [er_]; have hq1 := ci_q1 hI ef_ hse hJ.1
  refine pg_re 0 (L := []) (r := some (.inl (if g0 10 7 * sy_sh g0 n < 1 then 1 else v_ / (g0 10 7 * sy_sh g0 n)))) (h0 := g) rfl trivial ?_
  exact ⟨hq1, g0, v_, w1_, w2_, w3_, rfl⟩
theorem ct_least {h : pg_H} {s n : Int} (hI : ci_I h s n) (x : Int) (hx : pg_inR x) (y : Int) (hy : pg_inR y) : pg_Sem true pm_P_least [.inr (.inr 0), .inl x, .inl y] h (fun r h' => ci_Q h h' s n ∧ cq_J h' s n ∧ r = some (.inl (po_F (po_Tn h' s n) (n * n).toNat (mt_pt n (x % n) (y % n)).toNat))) := by
  obtain ⟨hQ, hRc, hPo, hSg, hHv, hGn⟩ := id hI
  obtain ⟨hB, hC, hS, -, -⟩ := id hQ
  obtain ⟨hs, ⟨hn1, hn2⟩, e1, e2, e3, e5⟩ := id hB
  have hr := mt_rd_or hs
  obtain ⟨x1, x2⟩ := hx
  obtain ⟨y1, y2⟩ := hy
  have hpt := mt_pt_bd hn1 hn2 (mt_mod hn1 x) (mt_mod hn1 y)
  refine pg_Sem_of pm_P_least_f rfl ?_
  refine pg_ca 6 (L := []) (Mc := pm_M_point) (as := [.inr (.inr 4), .inl x, .inl y]) (h0 := h) (pc := 13) (lv := [(0, .inr (.inr 0)), (1, .inl x), (2, .inl y)]) (rest := [.inr (.inr 13)]) rfl trivial (cm_point hB x y ⟨by omega, by omega⟩ ⟨by omega, by omega⟩) ?_
  intro r_1 h_1 e_1; rw [e_1.1, e_1.2]
  refine pg_ca 0 (L := []) (Mc := pm_O_leastOf) (as := [.inr (.inr 13), .inl (mt_pt n (x % n) (y % n))]) (h0 := h) (pc := 16) (lv := [(0, .inr (.inr 0)), (1, .inl x), (2, .inl y)]) (rest := []) rfl trivial (po_least hQ hPo (p := (mt_pt n (x % n) (y % n))) ⟨by omega, by omega⟩) ?_
  intro r_1 g e_1; obtain ⟨z_, er_, ef_, hJ, hD_, hk_, hse, hz_⟩ := e_1; rw [er_]
  refine pg_re 0 (L := []) (r := some (.inl z_)) (h0 := g) rfl trivial ?_
  exact ⟨ci_q2 hI ef_ hse hJ hD_ hk_, hJ, by rw [hz_]⟩
theorem ct_orbit {h : pg_H} {s n : Int} (hI : ci_I h s n) (x : Int) (hx : pg_inR x) (y : Int) (hy : pg_inR y) : pg_Sem true pm_P_orbit [.inr (.inr 0), .inl x, .inl y] h (fun r h' => ci_Q h h' s n ∧ cq_J h' s n ∧ r = some (.inl (pg_cn (fun q => po_F (po_Tn h' s n) (n * n).toNat q = po_F (po_Tn h' s n) (n * n).toNat (mt_pt n (x % n) (y % n)).toNat) (n * n).toNat))) := by
  obtain ⟨hQ, hRc, hPo, hSg, hHv, hGn⟩ := id hI
  obtain ⟨hB, hC, hS, -, -⟩ := id hQ
  obtain ⟨hs, ⟨hn1, hn2⟩, e1, e2, e3, e5⟩ := id hB
  have hr := mt_rd_or hs
  obtain ⟨x1, x2⟩ := hx
  obtain ⟨y1, y2⟩ := hy
  have hpt := mt_pt_bd hn1 hn2 (mt_mod hn1 x) (mt_mod hn1 y)
  refine pg_Sem_of pm_P_orbit_f rfl ?_
  refine pg_ca 6 (L := []) (Mc := pm_M_point) (as := [.inr (.inr 4), .inl x, .inl y]) (h0 := h) (pc := 13) (lv := [(0, .inr (.inr 0)), (1, .inl x), (2, .inl y)]) (rest := [.inr (.inr 13)]) rfl trivial (cm_point hB x y ⟨by omega, by omega⟩ ⟨by omega, by omega⟩) ?_
  intro r_1 h_1 e_1; rw [e_1.1, e_1.2]
  refine pg_ca 0 (L := []) (Mc := pm_O_sizeOf) (as := [.inr (.inr 13), .inl (mt_pt n (x % n) (y % n))]) (h0 := h) (pc := 16) (lv := [(0, .inr (.inr 0)), (1, .inl x), (2, .inl y)]) (rest := []) rfl trivial (po_size hQ hPo (p := (mt_pt n (x % n) (y % n))) ⟨by omega, by omega⟩) ?_
  intro r_1 g e_1; obtain ⟨z_, er_, ef_, hJ, hD_, hk_, hse, hz_⟩ := e_1; rw [er_]
  refine pg_re 0 (L := []) (r := some (.inl z_)) (h0 := g) rfl trivial ?_
  exact ⟨ci_q2 hI ef_ hse hJ hD_ hk_, hJ, by rw [hz_]⟩
theorem ct_place {h : pg_H} {s n : Int} (hI : ci_I h s n) (p : Int) (hp : pg_inR p) (q : Int) (hq : pg_inR q) (w : Int) (hw : pg_inR w) : pg_Sem true pm_P_place [.inr (.inr 0), .inl p, .inl q, .inl w] h (fun r h' => ci_Q h h' s n ∧ (¬ (0 ≤ w ∧ w ≤ 1) → r = some (.inl (-2))) ∧ (0 ≤ w ∧ w ≤ 1 → cq_J h' s n ∧ r = some (.inl (if w = 0 then pg_cn (fun k => sy_F h' s k (p % (6 * n)) (q % (6 * n))) (mt_rd s).toNat else pg_cn (fun k => sy_F h' s (mt_rd s + k) (p % (6 * n)) (q % (6 * n))) (mt_rd s).toNat)))) := by
  obtain ⟨hQ, hRc, hPo, hSg, hHv, hGn⟩ := id hI
  obtain ⟨hB, hC, hS, -, -⟩ := id hQ
  obtain ⟨hs, ⟨hn1, hn2⟩, e1, e2, e3, e5⟩ := id hB
  have hr := mt_rd_or hs
  obtain ⟨p1, p2⟩ := hp
  obtain ⟨q1, q2⟩ := hq
  obtain ⟨w1, w2⟩ := hw
  have mp := mt_mod (n := 6 * n) (by omega) p
  have mq := mt_mod (n := 6 * n) (by omega) q
  refine pg_Sem_of pm_P_place_f rfl ?_
  refine pg_br 1 (L := []) (P := pg_inR w) (c := w < 0) (st1 := (9, [(0, .inr (.inr 0)), (1, .inl p), (2, .inl q), (3, .inl w)], [], h)) (st2 := (4, [(0, .inr (.inr 0)), (1, .inl p), (2, .inl q), (3, .inl w)], [], h)) rfl trivial ⟨by omega, by omega⟩ (fun c_1_1 => ?_) (fun c_1_1 => ?_)
  · refine pg_re 1 (L := []) (r := some (.inl (-2))) (h0 := h) rfl trivial ?_
    exact ⟨ci_q0 hI, fun _ => rfl, fun hz => absurd hz (by omega)⟩
  · refine pg_br 2 (L := []) (P := pg_inR w ∧ pg_inR 1) (c := w ≤ 1) (st1 := (12, [(0, .inr (.inr 0)), (1, .inl p), (2, .inl q), (3, .inl w)], [], h)) (st2 := (9, [(0, .inr (.inr 0)), (1, .inl p), (2, .inl q), (3, .inl w)], [], h)) rfl trivial ⟨⟨by omega, by omega⟩, ⟨by decide, by decide⟩⟩ (fun c_6_2 => ?_) (fun c_6_2 => ?_)
    · refine pg_ca 2 (L := []) (Mc := pm_S_study) (as := [.inr (.inr 10)]) (h0 := h) (pc := 19) (lv := [(0, .inr (.inr 0)), (1, .inl p), (2, .inl q), (3, .inl w)]) (rest := []) rfl trivial (cq_study hQ) ?_
      intro r_1 g e_1; obtain ⟨er_, ef_, hJ, hse⟩ := e_1; rw [er_]; have hRg := sy_R_of hs hn2 hJ.2.2; have hBg := hJ.1.1; have hq1 := ci_q1 hI (pg_fr_tr (pg_fr_rf _ _) ef_ (by decide)) hse hJ.1
      refine pg_ca 3 (L := []) (Mc := pm_M_wrapSixths) (as := [.inr (.inr 4), .inl p]) (h0 := g) (pc := 27) (lv := [(0, .inr (.inr 0)), (1, .inl p), (2, .inl q), (3, .inl w)]) (rest := []) rfl trivial (cm_wrapSixths hBg p ⟨by omega, by omega⟩) ?_
      intro r_1 h_1 e_1; rw [e_1.1, e_1.2]
      refine pg_ca 4 (L := []) (Mc := pm_M_wrapSixths) (as := [.inr (.inr 4), .inl q]) (h0 := g) (pc := 37) (lv := [(0, .inr (.inr 0)), (1, .inl p), (2, .inl q), (3, .inl w), (4, .inl (p % (6 * n)))]) (rest := []) rfl trivial (cm_wrapSixths hBg q ⟨by omega, by omega⟩) ?_
      intro r_1 h_1 e_1; rw [e_1.1, e_1.2]
      refine pg_br 2 (L := []) (P := pg_inR w) (c := ¬ w = 0) (st1 := (57, [(0, .inr (.inr 0)), (1, .inl p), (2, .inl q), (3, .inl w), (4, .inl (p % (6 * n))), (5, .inl (q % (6 * n)))], [], g)) (st2 := (43, [(0, .inr (.inr 0)), (1, .inl p), (2, .inl q), (3, .inl w), (4, .inl (p % (6 * n))), (5, .inl (q % (6 * n)))], [], g)) rfl trivial ⟨by omega, by omega⟩ (fun c_40_3 => ?_) (fun c_40_3 => ?_)
      · refine pg_ca 4 (L := []) (Mc := pm_S_mirrorsAt) (as := [.inr (.inr 10), .inl (p % (6 * n)), .inl (q % (6 * n))]) (h0 := g) (pc := 68) (lv := [(0, .inr (.inr 0)), (1, .inl p), (2, .inl q), (3, .inl w), (4, .inl (p % (6 * n))), (5, .inl (q % (6 * n)))]) (rest := []) rfl trivial (cs_mirr hBg hRg (p := (p % (6 * n))) (q := (q % (6 * n))) ⟨by omega, by omega⟩ ⟨by omega, by omega⟩) ?_
        intro r_1 h_1 e_1; rw [e_1.1, e_1.2]
        refine pg_re 0 (L := []) (r := some (.inl (pg_cn (fun k => sy_F g s (mt_rd s + k) (p % (6 * n)) (q % (6 * n))) (mt_rd s).toNat))) (h0 := g) rfl trivial ?_
        refine ⟨hq1, fun hz => absurd (show 0 ≤ w ∧ w ≤ 1 by omega) hz, fun _ => ⟨hJ, ?_⟩⟩
        first | rw [if_pos (show w = 0 by omega)] | rw [if_neg (show ¬ w = 0 by omega)]
      · refine pg_ca 4 (L := []) (Mc := pm_S_turnsAt) (as := [.inr (.inr 10), .inl (p % (6 * n)), .inl (q % (6 * n))]) (h0 := g) (pc := 54) (lv := [(0, .inr (.inr 0)), (1, .inl p), (2, .inl q), (3, .inl w), (4, .inl (p % (6 * n))), (5, .inl (q % (6 * n)))]) (rest := []) rfl trivial (cs_turns hBg hRg (p := (p % (6 * n))) (q := (q % (6 * n))) ⟨by omega, by omega⟩ ⟨by omega, by omega⟩) ?_
        intro r_1 h_1 e_1; rw [e_1.1, e_1.2]
        refine pg_re 1 (L := []) (r := some (.inl (pg_cn (fun k => sy_F g s k (p % (6 * n)) (q % (6 * n))) (mt_rd s).toNat))) (h0 := g) rfl trivial ?_
        refine ⟨hq1, fun hz => absurd (show 0 ≤ w ∧ w ≤ 1 by omega) hz, fun _ => ⟨hJ, ?_⟩⟩
        first | rw [if_pos (show w = 0 by omega)] | rw [if_neg (show ¬ w = 0 by omega)]
    · refine pg_re 1 (L := []) (r := some (.inl (-2))) (h0 := h) rfl trivial ?_
      exact ⟨ci_q0 hI, fun _ => rfl, fun hz => absurd hz (by omega)⟩
theorem ct_halves {h : pg_H} {s n : Int} (hI : ci_I h s n) : pg_Sem true pm_P_halves [.inr (.inr 0)] h (fun r h' => ci_Q h h' s n ∧ cq_J h' s n ∧ hv_D h' s n ∧ r = some (.inl (h' 18 5))) := by
  obtain ⟨hQ, hRc, hPo, hSg, hHv, hGn⟩ := id hI
  obtain ⟨hB, hC, hS, -, -⟩ := id hQ
  obtain ⟨hs, ⟨hn1, hn2⟩, e1, e2, e3, e5⟩ := id hB
  have hr := mt_rd_or hs
  refine pg_Sem_of pm_P_halves_f rfl ?_
  refine pg_ca 2 (L := []) (Mc := pm_H_total) (as := [.inr (.inr 18)]) (h0 := h) (pc := 7) (lv := [(0, .inr (.inr 0))]) (rest := []) rfl trivial (hv_to hQ hRc hHv) ?_
  intro r_1 g e_1; obtain ⟨z_, er_, ef_, hJ, hRc2, hD_, hk_, hz_, hse⟩ := e_1; rw [er_]
  refine pg_re 0 (L := []) (r := some (.inl z_)) (h0 := g) rfl trivial ?_
  exact ⟨ci_q4 hI ef_ hse hJ hRc2 hD_ hk_, hJ, hD_, by rw [hz_]⟩
