/-! the class: kind, feature, strip, generate, count -/
theorem sg_lf5 (h : pg_H) : sg_lf h 5 = 48 - 24 * h 15 7 - (h 16 2 * 12 + h 17 2 * 6) - (h 16 3 * 16 + h 17 3 * 8) - (h 16 4 * 18 + h 17 4 * 9) - (h 16 5 * 19 + h 17 5 * 9) - (h 16 6 * 20 + h 17 6 * 10) := rfl
theorem sg_D_bd {h : pg_H} {s : Int} (hR : sy_R h s) (hD : sg_D h s) : (∀ r : Nat, r < 7 → (0 ≤ h 16 r ∧ h 16 r ≤ 200000) ∧ (0 ≤ h 17 r ∧ h 17 r ≤ 200000)) ∧ (0 ≤ h 15 7 ∧ h 15 7 ≤ 5184) ∧ pg_inR (h 15 8) ∧ pg_inR (h 15 9) := by
  obtain ⟨hW, ⟨h7, -⟩, hc, h8, h9⟩ := hD
  have ra := hR.1
  have rc := hR.2.2.1
  have hM : h 15 5 * h 15 6 ≤ 72 * 72 := by
    rw [hW.1, hW.2]
    exact Int.mul_le_mul (by omega) (by omega) (by omega) (by decide)
  have hl : 1 ≤ sg_l h := by unfold sg_l; split <;> omega
  have hE := sg_E_bd h s (h 15 5 * h 15 6).toNat
  have hb : ∀ r : Nat, r < 7 → (0 ≤ h 16 r ∧ h 16 r ≤ 200000) ∧ (0 ≤ h 17 r ∧ h 17 r ≤ 200000) := by
    intro r hr
    have c1 := pg_cn_bd (fun j => sg_t h s j = (r : Int) ∧ sg_m h s j = 0) (h 15 5 * h 15 6).toNat
    have c2 := pg_cn_bd (fun j => sg_t h s j = (r : Int) ∧ sg_m h s j ≠ 0) (h 15 5 * h 15 6).toNat
    rw [(hc r hr).1, (hc r hr).2]
    unfold sg_cn sg_co
    have m1 := pg_mul7 (x := pg_cn (fun j => sg_t h s j = (r : Int) ∧ sg_m h s j = 0) (h 15 5 * h 15 6).toNat) (j := r) (M := 10000) (by omega) ⟨by omega, by omega⟩
    have m2 := pg_mul7 (x := pg_cn (fun j => sg_t h s j = (r : Int) ∧ sg_m h s j ≠ 0) (h 15 5 * h 15 6).toNat * 2) (j := r) (M := 20000) (by omega) ⟨by omega, by omega⟩
    have d1 := pg_div_bd m1 hl
    have d2 := pg_div_bd m2 hl
    exact ⟨⟨d1.1, by omega⟩, ⟨d2.1, by omega⟩⟩
  have h7b : 0 ≤ h 15 7 ∧ h 15 7 ≤ 5184 := by rw [h7]; omega
  have b2 := hb 2 (by decide)
  have b3 := hb 3 (by decide)
  have b4 := hb 4 (by decide)
  have b5 := hb 5 (by decide)
  have b6 := hb 6 (by decide)
  have hlf : -100000000 ≤ sg_lf h 5 ∧ sg_lf h 5 ≤ 100000000 := by rw [sg_lf5]; omega
  have t1 := pg_tdiv_bd (c := 24) (by decide) hlf
  have t2 := pg_tdiv_bd (c := 48) (by decide) hlf
  refine ⟨hb, h7b, ?_, ?_⟩
  · rw [h8]
    rcases Classical.em (sg_od h s) with hq | hq
    · rw [pg_if_t hq]; exact ⟨by omega, by omega⟩
    · rw [pg_if_f hq]; exact ⟨by omega, by omega⟩
  · rw [h9]
    rcases Classical.em (sg_od h s) with hq | hq
    · rw [pg_if_t hq]; exact ⟨by omega, by omega⟩
    · rw [pg_if_f hq]; exact ⟨by omega, by omega⟩
theorem ct_gen_I {h : pg_H} {s n k u v : Int} (hI : ci_I h s n) (hk : 0 ≤ k ∧ k < 2 * mt_rd s) (h6 : h 20 4 < 6) : ci_I (pg_up (pg_up h 21 (h 20 4).toNat (mt_cd n k u v)) 20 4 (h 20 4 + 1)) s n := by
  obtain ⟨h1, h2, h3, h4, h5, g1, g2⟩ := hI
  obtain ⟨hs, hn, -⟩ := id h1.1
  have hf : pg_fr [20, 21] h (pg_up (pg_up h 21 (h 20 4).toNat (mt_cd n k u v)) 20 4 (h 20 4 + 1)) := pg_fr_up (pg_fr_up (pg_fr_rf _ _) (by decide) _ _) (by decide) _ _
  have he : sy_eq h (pg_up (pg_up h 21 (h 20 4).toNat (mt_cd n k u v)) 20 4 (h 20 4 + 1)) := fun _ => ⟨fun _ _ => rfl, rfl, rfl⟩
  refine ⟨?_, rc_I_fr hf (by decide) (by decide) (by decide) h2, po_I_fr he rfl rfl (fun h => h) h3, sg_I_fr he rfl rfl rfl (fun h => h) h4, hv_I_fr he rfl (fun h => h) h5, ?_, fun j hj => ?_⟩
  · obtain ⟨hB, hC, hS, hK, hV⟩ := h1
    refine ⟨cm_B_fr hB hf (by decide) (by decide), cp_C_fr hC hf (by decide), cp_S_fr hS hf (by decide) (by decide), ?_, ?_⟩
    · rcases hK with hq | hq
      · exact Or.inl hq
      · exact Or.inr ⟨hq.1, sy_D_fr rfl (fun _ _ _ => rfl) rfl rfl hq.2⟩
    · rcases hV with hq | hq
      · exact Or.inl hq
      · exact Or.inr ⟨hq.1, sy_V_fr rfl rfl (fun _ _ _ => rfl) hq.2⟩
  · show 0 ≤ h 20 4 + 1 ∧ h 20 4 + 1 ≤ 6
    omega
  · have hj : (j : Int) < h 20 4 + 1 := hj
    show 0 ≤ pg_up h 21 (h 20 4).toNat (mt_cd n k u v) 21 j ∧ pg_up h 21 (h 20 4).toNat (mt_cd n k u v) 21 j < _
    rw [pg_up_at]
    split
    · exact mt_cdb hn hk
    · exact g2 j (by omega)
theorem ct_kind {h : pg_H} {s n : Int} (hI : ci_I h s n) : pg_Sem true pm_P_kind [.inr (.inr 0)] h (fun r h' => ci_Q h h' s n ∧ cq_J h' s n ∧ sg_D h' s ∧ r = some (.inl (sg_nm h'))) := by
  obtain ⟨hQ, hRc, hPo, hSg, hHv, hGn⟩ := id hI
  obtain ⟨hB, hC, hS, -, -⟩ := id hQ
  obtain ⟨hs, ⟨hn1, hn2⟩, e1, e2, e3, e5⟩ := id hB
  have hr := mt_rd_or hs
  refine pg_Sem_of pm_P_kind_f rfl ?_
  refine pg_ca 2 (L := []) (Mc := pm_G_study) (as := [.inr (.inr 15)]) (h0 := h) (pc := 7) (lv := [(0, .inr (.inr 0))]) (rest := []) rfl trivial (sg_study hQ hRc hSg) ?_
  intro r_1 g e_1; obtain ⟨er_, ef_, hJ, hRc2, hD_, hk_, hse⟩ := e_1; rw [er_]; have hRg := sy_R_of hs hn2 hJ.2.2; have hq1 := ci_q3 hI ef_ hse hJ hRc2 hD_ hk_; have hbd := sg_D_bd hRg hD_
  refine pg_ca 2 (L := []) (Mc := pm_G_name) (as := [.inr (.inr 15)]) (h0 := g) (pc := 14) (lv := [(0, .inr (.inr 0))]) (rest := []) rfl trivial (sg_nms (h := g) (fun r hr => ⟨⟨by have := hbd.1 r hr; omega, by have := hbd.1 r hr; omega⟩, ⟨by have := hbd.1 r hr; omega, by have := hbd.1 r hr; omega⟩⟩) ⟨⟨by omega, by omega⟩, hbd.2.2.1⟩) ?_
  intro r_1 h_1 e_1; rw [e_1.1, e_1.2]
  refine pg_re 0 (L := []) (r := some (.inl (sg_nm g))) (h0 := g) rfl trivial ?_
  exact ⟨hq1, hJ, hD_, rfl⟩
set_option maxHeartbeats 4000000 in
theorem ct_feature {h : pg_H} {s n : Int} (hI : ci_I h s n) (a : Int) (ha : pg_inR a) (b : Int) (hb : pg_inR b) : pg_Sem true pm_P_feature [.inr (.inr 0), .inl a, .inl b] h (fun r h' => ci_Q h h' s n ∧ (¬ ((0 ≤ a ∧ a ≤ 4) ∧ (a < 2 → b = 2 ∨ b = 3 ∨ b = 4 ∨ b = 6)) → r = some (.inl (-2))) ∧ ((0 ≤ a ∧ a ≤ 4) ∧ (a < 2 → b = 2 ∨ b = 3 ∨ b = 4 ∨ b = 6) → cq_J h' s n ∧ sg_D h' s ∧ r = some (.inl (if a = 0 then h' 16 b.toNat else if a = 1 then h' 17 b.toNat else if a = 2 then h' 15 7 else if a = 3 then h' 15 8 else h' 15 9)))) := by
  obtain ⟨hQ, hRc, hPo, hSg, hHv, hGn⟩ := id hI
  obtain ⟨hB, hC, hS, -, -⟩ := id hQ
  obtain ⟨hs, ⟨hn1, hn2⟩, e1, e2, e3, e5⟩ := id hB
  have hr := mt_rd_or hs
  obtain ⟨a1, a2⟩ := ha
  obtain ⟨b1, b2⟩ := hb
  have hif4 : ((if b = 2 ∨ b = 3 ∨ b = 4 ∨ b = 6 then (1 : Int) else 0) = 1 ∧ (b = 2 ∨ b = 3 ∨ b = 4 ∨ b = 6)) ∨ ((if b = 2 ∨ b = 3 ∨ b = 4 ∨ b = 6 then (1 : Int) else 0) = 0 ∧ ¬ (b = 2 ∨ b = 3 ∨ b = 4 ∨ b = 6)) := by split <;> simp_all
  refine pg_Sem_of pm_P_feature_f rfl ?_
  refine pg_br 1 (L := []) (P := pg_inR a) (c := a < 0) (st1 := (21, [(0, .inr (.inr 0)), (1, .inl a), (2, .inl b)], [], h)) (st2 := (4, [(0, .inr (.inr 0)), (1, .inl a), (2, .inl b)], [], h)) rfl trivial ⟨by omega, by omega⟩ (fun c_1_1 => ?_) (fun c_1_1 => ?_)
  · refine pg_re 1 (L := []) (r := some (.inl (-2))) (h0 := h) rfl trivial ?_
    exact ⟨ci_q0 hI, fun _ => rfl, fun hz => absurd hz (by omega)⟩
  · refine pg_br 2 (L := []) (P := pg_inR a ∧ pg_inR 4) (c := 4 < a) (st1 := (21, [(0, .inr (.inr 0)), (1, .inl a), (2, .inl b)], [], h)) (st2 := (9, [(0, .inr (.inr 0)), (1, .inl a), (2, .inl b)], [], h)) rfl trivial ⟨⟨by omega, by omega⟩, ⟨by decide, by decide⟩⟩ (fun c_6_2 => ?_) (fun c_6_2 => ?_)
    · refine pg_re 1 (L := []) (r := some (.inl (-2))) (h0 := h) rfl trivial ?_
      exact ⟨ci_q0 hI, fun _ => rfl, fun hz => absurd hz (by omega)⟩
    · refine pg_br 2 (L := []) (P := pg_inR a ∧ pg_inR 2) (c := 2 ≤ a) (st1 := (24, [(0, .inr (.inr 0)), (1, .inl a), (2, .inl b)], [], h)) (st2 := (14, [(0, .inr (.inr 0)), (1, .inl a), (2, .inl b)], [], h)) rfl trivial ⟨⟨by omega, by omega⟩, ⟨by decide, by decide⟩⟩ (fun c_11_3 => ?_) (fun c_11_3 => ?_)
      · refine pg_ca 2 (L := []) (Mc := pm_G_study) (as := [.inr (.inr 15)]) (h0 := h) (pc := 31) (lv := [(0, .inr (.inr 0)), (1, .inl a), (2, .inl b)]) (rest := []) rfl trivial (sg_study hQ hRc hSg) ?_
        intro r_1 g e_1; obtain ⟨er_, ef_, hJ, hRc2, hD_, hk_, hse⟩ := e_1; rw [er_]; have hRg := sy_R_of hs hn2 hJ.2.2; have hq1 := ci_q3 hI ef_ hse hJ hRc2 hD_ hk_; have hbd := sg_D_bd hRg hD_
        have hval : (0 ≤ a ∧ a ≤ 4) ∧ (a < 2 → b = 2 ∨ b = 3 ∨ b = 4 ∨ b = 6) := by omega
        have hcs : a = 0 ∨ a = 1 ∨ a = 2 ∨ a = 3 ∨ a = 4 := by omega
        rcases hcs with rfl | rfl | rfl | rfl | rfl
        · refine pg_re 7 (L := [pg_inR 0, 0 ≤ b ∧ b < (7 : Int)]) (r := some (.inl (g 16 b.toNat))) (h0 := g) rfl ⟨⟨by decide, by decide⟩, ⟨by omega, by omega⟩⟩ ?_
          exact ⟨hq1, fun hz => absurd hval hz, fun _ => ⟨hJ, hD_, rfl⟩⟩
        · refine pg_re 7 (L := [pg_inR 1, 0 ≤ b ∧ b < (7 : Int)]) (r := some (.inl (g 17 b.toNat))) (h0 := g) rfl ⟨⟨by decide, by decide⟩, ⟨by omega, by omega⟩⟩ ?_
          exact ⟨hq1, fun hz => absurd hval hz, fun _ => ⟨hJ, hD_, rfl⟩⟩
        · refine pg_re 5 (L := [pg_inR 2]) (r := some (.inl (g 15 7))) (h0 := g) rfl ⟨by decide, by decide⟩ ?_
          exact ⟨hq1, fun hz => absurd hval hz, fun _ => ⟨hJ, hD_, rfl⟩⟩
        · refine pg_re 5 (L := [pg_inR 3]) (r := some (.inl (g 15 8))) (h0 := g) rfl ⟨by decide, by decide⟩ ?_
          exact ⟨hq1, fun hz => absurd hval hz, fun _ => ⟨hJ, hD_, rfl⟩⟩
        · refine pg_re 5 (L := [pg_inR 4]) (r := some (.inl (g 15 9))) (h0 := g) rfl ⟨by decide, by decide⟩ ?_
          exact ⟨hq1, fun hz => absurd hval hz, fun _ => ⟨hJ, hD_, rfl⟩⟩
      · refine pg_ca 1 (L := []) (Mc := pm_P_isOrder) (as := [.inl b]) (h0 := h) (pc := 18) (lv := [(0, .inr (.inr 0)), (1, .inl a), (2, .inl b)]) (rest := []) rfl trivial (ct_isOrder h b ⟨by omega, by omega⟩) ?_
        intro r_1 h_1 e_1; rw [e_1.1, e_1.2]
        refine pg_br 0 (L := []) (P := pg_inR (if b = 2 ∨ b = 3 ∨ b = 4 ∨ b = 6 then 1 else 0)) (c := ¬ (if b = 2 ∨ b = 3 ∨ b = 4 ∨ b = 6 then 1 else 0) = 0) (st1 := (24, [(0, .inr (.inr 0)), (1, .inl a), (2, .inl b)], [], h)) (st2 := (21, [(0, .inr (.inr 0)), (1, .inl a), (2, .inl b)], [], h)) rfl trivial ⟨by omega, by omega⟩ (fun c_18_4 => ?_) (fun c_18_4 => ?_)
        · refine pg_ca 2 (L := []) (Mc := pm_G_study) (as := [.inr (.inr 15)]) (h0 := h) (pc := 31) (lv := [(0, .inr (.inr 0)), (1, .inl a), (2, .inl b)]) (rest := []) rfl trivial (sg_study hQ hRc hSg) ?_
          intro r_1 g e_1; obtain ⟨er_, ef_, hJ, hRc2, hD_, hk_, hse⟩ := e_1; rw [er_]; have hRg := sy_R_of hs hn2 hJ.2.2; have hq1 := ci_q3 hI ef_ hse hJ hRc2 hD_ hk_; have hbd := sg_D_bd hRg hD_
          have hval : (0 ≤ a ∧ a ≤ 4) ∧ (a < 2 → b = 2 ∨ b = 3 ∨ b = 4 ∨ b = 6) := by omega
          have hcs : a = 0 ∨ a = 1 ∨ a = 2 ∨ a = 3 ∨ a = 4 := by omega
          rcases hcs with rfl | rfl | rfl | rfl | rfl
          · refine pg_re 7 (L := [pg_inR 0, 0 ≤ b ∧ b < (7 : Int)]) (r := some (.inl (g 16 b.toNat))) (h0 := g) rfl ⟨⟨by decide, by decide⟩, ⟨by omega, by omega⟩⟩ ?_
            exact ⟨hq1, fun hz => absurd hval hz, fun _ => ⟨hJ, hD_, rfl⟩⟩
          · refine pg_re 7 (L := [pg_inR 1, 0 ≤ b ∧ b < (7 : Int)]) (r := some (.inl (g 17 b.toNat))) (h0 := g) rfl ⟨⟨by decide, by decide⟩, ⟨by omega, by omega⟩⟩ ?_
            exact ⟨hq1, fun hz => absurd hval hz, fun _ => ⟨hJ, hD_, rfl⟩⟩
          · refine pg_re 5 (L := [pg_inR 2]) (r := some (.inl (g 15 7))) (h0 := g) rfl ⟨by decide, by decide⟩ ?_
            exact ⟨hq1, fun hz => absurd hval hz, fun _ => ⟨hJ, hD_, rfl⟩⟩
          · refine pg_re 5 (L := [pg_inR 3]) (r := some (.inl (g 15 8))) (h0 := g) rfl ⟨by decide, by decide⟩ ?_
            exact ⟨hq1, fun hz => absurd hval hz, fun _ => ⟨hJ, hD_, rfl⟩⟩
          · refine pg_re 5 (L := [pg_inR 4]) (r := some (.inl (g 15 9))) (h0 := g) rfl ⟨by decide, by decide⟩ ?_
            exact ⟨hq1, fun hz => absurd hval hz, fun _ => ⟨hJ, hD_, rfl⟩⟩
        · refine pg_re 1 (L := []) (r := some (.inl (-2))) (h0 := h) rfl trivial ?_
          exact ⟨ci_q0 hI, fun _ => rfl, fun hz => absurd hz (by omega)⟩
def mt_sx (col : Nat → Int) (n y w tb bk : Int) : Prop := ∃ u : Int, 0 ≤ u ∧ u < n ∧ mt_st col n y w tb bk u
noncomputable def mt_stk (G U T F : Prop) : Int := pg_if G (pg_if U (pg_if F 7 5) (pg_if F 6 2)) (pg_if U 3 (pg_if T 4 1))
set_option maxHeartbeats 8000000 in
theorem ct_strip {h : pg_H} {s n : Int} (hI : ci_I h s n) (y : Int) (hy : pg_inR y) (w : Int) (hw : pg_inR w) : pg_Sem true pm_P_strip [.inr (.inr 0), .inl y, .inl w] h (fun r h' => ci_Q h h' s n ∧ (¬ (s = 0 ∧ 1 ≤ w ∧ w ≤ n) → r = some (.inl (-2))) ∧ (s = 0 ∧ 1 ≤ w ∧ w ≤ n → r = some (.inl (mt_stk (mt_sx (h 7) n (y % n) w 1 0) (mt_sx (h 7) n (y % n) w 0 1) (mt_sx (h 7) n (y % n) w 1 1) (mt_st (h 7) n (y % n) w 1 0 0))))) := by
  obtain ⟨hQ, hRc, hPo, hSg, hHv, hGn⟩ := id hI
  obtain ⟨hB, hC, hS, -, -⟩ := id hQ
  obtain ⟨hs, ⟨hn1, hn2⟩, e1, e2, e3, e5⟩ := id hB
  have hr := mt_rd_or hs
  obtain ⟨y1, y2⟩ := hy
  obtain ⟨w1, w2⟩ := hw
  have my := mt_mod hn1 y
  have bg := pg_b_or (mt_sx (h 7) n (y % n) w 1 0)
  have bu := pg_b_or (mt_sx (h 7) n (y % n) w 0 1)
  have bt := pg_b_or (mt_sx (h 7) n (y % n) w 1 1)
  have bf := pg_b_or (mt_st (h 7) n (y % n) w 1 0 0)
  refine pg_Sem_of pm_P_strip_f rfl ?_
  refine pg_br 3 (L := []) (P := pg_inR (h 4 1)) (c := ¬ (h 4 1) = 0) (st1 := (26, [(0, .inr (.inr 0)), (1, .inl y), (2, .inl w)], [], h)) (st2 := (10, [(0, .inr (.inr 0)), (1, .inl y), (2, .inl w)], [], h)) rfl trivial ⟨by omega, by omega⟩ (fun c_7_1 => ?_) (fun c_7_1 => ?_)
  · refine pg_re 1 (L := []) (r := some (.inl (-2))) (h0 := h) rfl trivial ?_
    first | (exact ⟨ci_q0 hI, fun _ => rfl, fun hz => absurd hz (by omega)⟩) | skip
    all_goals refine ⟨ci_q0 hI, fun hz => absurd (show s = 0 ∧ 1 ≤ w ∧ w ≤ n by omega) hz, fun _ => ?_⟩
    all_goals unfold mt_stk
    all_goals (rcases bg with ⟨g1, g2⟩ | ⟨g1, g2⟩ <;> rcases bu with ⟨u1, u2⟩ | ⟨u1, u2⟩ <;> rcases bt with ⟨t1, t2⟩ | ⟨t1, t2⟩ <;> rcases bf with ⟨f1, f2⟩ | ⟨f1, f2⟩ <;> first | (exfalso; omega) | (first | (rw [pg_if_t g1, pg_if_t u1, pg_if_t f1]; done) | (rw [pg_if_t g1, pg_if_t u1, pg_if_f f1]; done) | (rw [pg_if_t g1, pg_if_f u1, pg_if_t f1]; done) | (rw [pg_if_t g1, pg_if_f u1, pg_if_f f1]; done) | (rw [pg_if_f g1, pg_if_t u1]; done) | (rw [pg_if_f g1, pg_if_f u1, pg_if_t t1]; done) | (rw [pg_if_f g1, pg_if_f u1, pg_if_f t1]; done)))
  · refine pg_br 2 (L := []) (P := pg_inR w ∧ pg_inR 1) (c := w < 1) (st1 := (26, [(0, .inr (.inr 0)), (1, .inl y), (2, .inl w)], [], h)) (st2 := (15, [(0, .inr (.inr 0)), (1, .inl y), (2, .inl w)], [], h)) rfl trivial ⟨⟨by omega, by omega⟩, ⟨by decide, by decide⟩⟩ (fun c_12_2 => ?_) (fun c_12_2 => ?_)
    · refine pg_re 1 (L := []) (r := some (.inl (-2))) (h0 := h) rfl trivial ?_
      first | (exact ⟨ci_q0 hI, fun _ => rfl, fun hz => absurd hz (by omega)⟩) | skip
      all_goals refine ⟨ci_q0 hI, fun hz => absurd (show s = 0 ∧ 1 ≤ w ∧ w ≤ n by omega) hz, fun _ => ?_⟩
      all_goals unfold mt_stk
      all_goals (rcases bg with ⟨g1, g2⟩ | ⟨g1, g2⟩ <;> rcases bu with ⟨u1, u2⟩ | ⟨u1, u2⟩ <;> rcases bt with ⟨t1, t2⟩ | ⟨t1, t2⟩ <;> rcases bf with ⟨f1, f2⟩ | ⟨f1, f2⟩ <;> first | (exfalso; omega) | (first | (rw [pg_if_t g1, pg_if_t u1, pg_if_t f1]; done) | (rw [pg_if_t g1, pg_if_t u1, pg_if_f f1]; done) | (rw [pg_if_t g1, pg_if_f u1, pg_if_t f1]; done) | (rw [pg_if_t g1, pg_if_f u1, pg_if_f f1]; done) | (rw [pg_if_f g1, pg_if_t u1]; done) | (rw [pg_if_f g1, pg_if_f u1, pg_if_t t1]; done) | (rw [pg_if_f g1, pg_if_f u1, pg_if_f t1]; done)))
    · refine pg_br 4 (L := []) (P := pg_inR w ∧ pg_inR (h 4 2)) (c := w ≤ (h 4 2)) (st1 := (29, [(0, .inr (.inr 0)), (1, .inl y), (2, .inl w)], [], h)) (st2 := (26, [(0, .inr (.inr 0)), (1, .inl y), (2, .inl w)], [], h)) rfl trivial ⟨⟨by omega, by omega⟩, ⟨by omega, by omega⟩⟩ (fun c_23_3 => ?_) (fun c_23_3 => ?_)
      · refine pg_ca 3 (L := []) (Mc := pm_M_wrap) (as := [.inr (.inr 4), .inl y]) (h0 := h) (pc := 37) (lv := [(0, .inr (.inr 0)), (1, .inl y), (2, .inl w)]) (rest := []) rfl trivial (cm_wrap hB y ⟨by omega, by omega⟩) ?_
        intro r_1 h_1 e_1; rw [e_1.1, e_1.2]
        refine pg_ca 7 (L := []) (Mc := pm_C_stripTurnsOver) (as := [.inr (.inr 6), .inl (y % n), .inl w, .inl 1, .inl 0]) (h0 := h) (pc := 49) (lv := [(0, .inr (.inr 0)), (1, .inl y), (2, .inl w), (3, .inl (y % n))]) (rest := []) rfl trivial (cp_to hB hC (y := (y % n)) (w := w) (tb := 1) (bk := 0) ⟨by omega, by omega⟩ ⟨by omega, by omega⟩ (by omega) (by omega)) ?_
        intro r_1 h_1 e_1; rw [e_1.1, e_1.2]
        refine pg_ca 7 (L := []) (Mc := pm_C_stripTurnsOver) (as := [.inr (.inr 6), .inl (y % n), .inl w, .inl 0, .inl 1]) (h0 := h) (pc := 62) (lv := [(0, .inr (.inr 0)), (1, .inl y), (2, .inl w), (3, .inl (y % n)), (4, .inl (pg_b (mt_sx (h 7) n (y % n) w 1 0)))]) (rest := []) rfl trivial (cp_to hB hC (y := (y % n)) (w := w) (tb := 0) (bk := 1) ⟨by omega, by omega⟩ ⟨by omega, by omega⟩ (by omega) (by omega)) ?_
        intro r_1 h_1 e_1; rw [e_1.1, e_1.2]
        refine pg_ca 7 (L := []) (Mc := pm_C_stripTurnsOver) (as := [.inr (.inr 6), .inl (y % n), .inl w, .inl 1, .inl 1]) (h0 := h) (pc := 75) (lv := [(0, .inr (.inr 0)), (1, .inl y), (2, .inl w), (3, .inl (y % n)), (4, .inl (pg_b (mt_sx (h 7) n (y % n) w 1 0))), (5, .inl (pg_b (mt_sx (h 7) n (y % n) w 0 1)))]) (rest := []) rfl trivial (cp_to hB hC (y := (y % n)) (w := w) (tb := 1) (bk := 1) ⟨by omega, by omega⟩ ⟨by omega, by omega⟩ (by omega) (by omega)) ?_
        intro r_1 h_1 e_1; rw [e_1.1, e_1.2]
        refine pg_br 2 (L := []) (P := pg_inR (pg_b (mt_sx (h 7) n (y % n) w 1 0))) (c := (pg_b (mt_sx (h 7) n (y % n) w 1 0)) = 0) (st1 := (127, [(0, .inr (.inr 0)), (1, .inl y), (2, .inl w), (3, .inl (y % n)), (4, .inl (pg_b (mt_sx (h 7) n (y % n) w 1 0))), (5, .inl (pg_b (mt_sx (h 7) n (y % n) w 0 1))), (6, .inl (pg_b (mt_sx (h 7) n (y % n) w 1 1)))], [], h)) (st2 := (82, [(0, .inr (.inr 0)), (1, .inl y), (2, .inl w), (3, .inl (y % n)), (4, .inl (pg_b (mt_sx (h 7) n (y % n) w 1 0))), (5, .inl (pg_b (mt_sx (h 7) n (y % n) w 0 1))), (6, .inl (pg_b (mt_sx (h 7) n (y % n) w 1 1)))], [], h)) rfl trivial ⟨by omega, by omega⟩ (fun c_79_4 => ?_) (fun c_79_4 => ?_)
        · refine pg_br 1 (L := []) (P := pg_inR (pg_b (mt_sx (h 7) n (y % n) w 0 1))) (c := (pg_b (mt_sx (h 7) n (y % n) w 0 1)) = 0) (st1 := (136, [(0, .inr (.inr 0)), (1, .inl y), (2, .inl w), (3, .inl (y % n)), (4, .inl (pg_b (mt_sx (h 7) n (y % n) w 1 0))), (5, .inl (pg_b (mt_sx (h 7) n (y % n) w 0 1))), (6, .inl (pg_b (mt_sx (h 7) n (y % n) w 1 1)))], [], h)) (st2 := (132, [(0, .inr (.inr 0)), (1, .inl y), (2, .inl w), (3, .inl (y % n)), (4, .inl (pg_b (mt_sx (h 7) n (y % n) w 1 0))), (5, .inl (pg_b (mt_sx (h 7) n (y % n) w 0 1))), (6, .inl (pg_b (mt_sx (h 7) n (y % n) w 1 1)))], [], h)) rfl trivial ⟨by omega, by omega⟩ (fun c_129_5 => ?_) (fun c_129_5 => ?_)
          · refine pg_br 1 (L := []) (P := pg_inR (pg_b (mt_sx (h 7) n (y % n) w 1 1))) (c := (pg_b (mt_sx (h 7) n (y % n) w 1 1)) = 0) (st1 := (145, [(0, .inr (.inr 0)), (1, .inl y), (2, .inl w), (3, .inl (y % n)), (4, .inl (pg_b (mt_sx (h 7) n (y % n) w 1 0))), (5, .inl (pg_b (mt_sx (h 7) n (y % n) w 0 1))), (6, .inl (pg_b (mt_sx (h 7) n (y % n) w 1 1)))], [], h)) (st2 := (141, [(0, .inr (.inr 0)), (1, .inl y), (2, .inl w), (3, .inl (y % n)), (4, .inl (pg_b (mt_sx (h 7) n (y % n) w 1 0))), (5, .inl (pg_b (mt_sx (h 7) n (y % n) w 0 1))), (6, .inl (pg_b (mt_sx (h 7) n (y % n) w 1 1)))], [], h)) rfl trivial ⟨by omega, by omega⟩ (fun c_138_6 => ?_) (fun c_138_6 => ?_)
            · refine pg_re 1 (L := []) (r := some (.inl 1)) (h0 := h) rfl trivial ?_
              first | (exact ⟨ci_q0 hI, fun _ => rfl, fun hz => absurd hz (by omega)⟩) | skip
              all_goals refine ⟨ci_q0 hI, fun hz => absurd (show s = 0 ∧ 1 ≤ w ∧ w ≤ n by omega) hz, fun _ => ?_⟩
              all_goals unfold mt_stk
              all_goals (rcases bg with ⟨g1, g2⟩ | ⟨g1, g2⟩ <;> rcases bu with ⟨u1, u2⟩ | ⟨u1, u2⟩ <;> rcases bt with ⟨t1, t2⟩ | ⟨t1, t2⟩ <;> rcases bf with ⟨f1, f2⟩ | ⟨f1, f2⟩ <;> first | (exfalso; omega) | (first | (rw [pg_if_t g1, pg_if_t u1, pg_if_t f1]; done) | (rw [pg_if_t g1, pg_if_t u1, pg_if_f f1]; done) | (rw [pg_if_t g1, pg_if_f u1, pg_if_t f1]; done) | (rw [pg_if_t g1, pg_if_f u1, pg_if_f f1]; done) | (rw [pg_if_f g1, pg_if_t u1]; done) | (rw [pg_if_f g1, pg_if_f u1, pg_if_t t1]; done) | (rw [pg_if_f g1, pg_if_f u1, pg_if_f t1]; done)))
            · refine pg_re 2 (L := []) (r := some (.inl 4)) (h0 := h) rfl trivial ?_
              first | (exact ⟨ci_q0 hI, fun _ => rfl, fun hz => absurd hz (by omega)⟩) | skip
              all_goals refine ⟨ci_q0 hI, fun hz => absurd (show s = 0 ∧ 1 ≤ w ∧ w ≤ n by omega) hz, fun _ => ?_⟩
              all_goals unfold mt_stk
              all_goals (rcases bg with ⟨g1, g2⟩ | ⟨g1, g2⟩ <;> rcases bu with ⟨u1, u2⟩ | ⟨u1, u2⟩ <;> rcases bt with ⟨t1, t2⟩ | ⟨t1, t2⟩ <;> rcases bf with ⟨f1, f2⟩ | ⟨f1, f2⟩ <;> first | (exfalso; omega) | (first | (rw [pg_if_t g1, pg_if_t u1, pg_if_t f1]; done) | (rw [pg_if_t g1, pg_if_t u1, pg_if_f f1]; done) | (rw [pg_if_t g1, pg_if_f u1, pg_if_t f1]; done) | (rw [pg_if_t g1, pg_if_f u1, pg_if_f f1]; done) | (rw [pg_if_f g1, pg_if_t u1]; done) | (rw [pg_if_f g1, pg_if_f u1, pg_if_t t1]; done) | (rw [pg_if_f g1, pg_if_f u1, pg_if_f t1]; done)))
          · refine pg_re 2 (L := []) (r := some (.inl 3)) (h0 := h) rfl trivial ?_
            first | (exact ⟨ci_q0 hI, fun _ => rfl, fun hz => absurd hz (by omega)⟩) | skip
            all_goals refine ⟨ci_q0 hI, fun hz => absurd (show s = 0 ∧ 1 ≤ w ∧ w ≤ n by omega) hz, fun _ => ?_⟩
            all_goals unfold mt_stk
            all_goals (rcases bg with ⟨g1, g2⟩ | ⟨g1, g2⟩ <;> rcases bu with ⟨u1, u2⟩ | ⟨u1, u2⟩ <;> rcases bt with ⟨t1, t2⟩ | ⟨t1, t2⟩ <;> rcases bf with ⟨f1, f2⟩ | ⟨f1, f2⟩ <;> first | (exfalso; omega) | (first | (rw [pg_if_t g1, pg_if_t u1, pg_if_t f1]; done) | (rw [pg_if_t g1, pg_if_t u1, pg_if_f f1]; done) | (rw [pg_if_t g1, pg_if_f u1, pg_if_t f1]; done) | (rw [pg_if_t g1, pg_if_f u1, pg_if_f f1]; done) | (rw [pg_if_f g1, pg_if_t u1]; done) | (rw [pg_if_f g1, pg_if_f u1, pg_if_t t1]; done) | (rw [pg_if_f g1, pg_if_f u1, pg_if_f t1]; done)))
        · refine pg_ca 7 (L := []) (Mc := pm_C_keepsStrip) (as := [.inr (.inr 6), .inl (y % n), .inl w, .inl 1, .inl 0, .inl 0]) (h0 := h) (pc := 94) (lv := [(0, .inr (.inr 0)), (1, .inl y), (2, .inl w), (3, .inl (y % n)), (4, .inl (pg_b (mt_sx (h 7) n (y % n) w 1 0))), (5, .inl (pg_b (mt_sx (h 7) n (y % n) w 0 1))), (6, .inl (pg_b (mt_sx (h 7) n (y % n) w 1 1)))]) (rest := []) rfl trivial (cp_ks hB hC (y := (y % n)) (w := w) (tb := 1) (bk := 0) (u := 0) ⟨by omega, by omega⟩ ⟨by omega, by omega⟩ (by omega) (by omega) ⟨by omega, by omega⟩) ?_
          intro r_1 h_1 e_1; rw [e_1.1, e_1.2]
          refine pg_br 2 (L := []) (P := pg_inR (pg_b (mt_sx (h 7) n (y % n) w 0 1))) (c := (pg_b (mt_sx (h 7) n (y % n) w 0 1)) = 0) (st1 := (115, [(0, .inr (.inr 0)), (1, .inl y), (2, .inl w), (3, .inl (y % n)), (4, .inl (pg_b (mt_sx (h 7) n (y % n) w 1 0))), (5, .inl (pg_b (mt_sx (h 7) n (y % n) w 0 1))), (6, .inl (pg_b (mt_sx (h 7) n (y % n) w 1 1))), (7, .inl (pg_b (mt_st (h 7) n (y % n) w 1 0 0)))], [], h)) (st2 := (101, [(0, .inr (.inr 0)), (1, .inl y), (2, .inl w), (3, .inl (y % n)), (4, .inl (pg_b (mt_sx (h 7) n (y % n) w 1 0))), (5, .inl (pg_b (mt_sx (h 7) n (y % n) w 0 1))), (6, .inl (pg_b (mt_sx (h 7) n (y % n) w 1 1))), (7, .inl (pg_b (mt_st (h 7) n (y % n) w 1 0 0)))], [], h)) rfl trivial ⟨by omega, by omega⟩ (fun c_98_7 => ?_) (fun c_98_7 => ?_)
          · refine pg_br 1 (L := []) (P := pg_inR (pg_b (mt_st (h 7) n (y % n) w 1 0 0))) (c := (pg_b (mt_st (h 7) n (y % n) w 1 0 0)) = 0) (st1 := (125, [(0, .inr (.inr 0)), (1, .inl y), (2, .inl w), (3, .inl (y % n)), (4, .inl (pg_b (mt_sx (h 7) n (y % n) w 1 0))), (5, .inl (pg_b (mt_sx (h 7) n (y % n) w 0 1))), (6, .inl (pg_b (mt_sx (h 7) n (y % n) w 1 1))), (7, .inl (pg_b (mt_st (h 7) n (y % n) w 1 0 0)))], [], h)) (st2 := (120, [(0, .inr (.inr 0)), (1, .inl y), (2, .inl w), (3, .inl (y % n)), (4, .inl (pg_b (mt_sx (h 7) n (y % n) w 1 0))), (5, .inl (pg_b (mt_sx (h 7) n (y % n) w 0 1))), (6, .inl (pg_b (mt_sx (h 7) n (y % n) w 1 1))), (7, .inl (pg_b (mt_st (h 7) n (y % n) w 1 0 0)))], [], h)) rfl trivial ⟨by omega, by omega⟩ (fun c_117_8 => ?_) (fun c_117_8 => ?_)
            · refine pg_re 1 (L := []) (r := some (.inl 2)) (h0 := h) rfl trivial ?_
              first | (exact ⟨ci_q0 hI, fun _ => rfl, fun hz => absurd hz (by omega)⟩) | skip
              all_goals refine ⟨ci_q0 hI, fun hz => absurd (show s = 0 ∧ 1 ≤ w ∧ w ≤ n by omega) hz, fun _ => ?_⟩
              all_goals unfold mt_stk
              all_goals (rcases bg with ⟨g1, g2⟩ | ⟨g1, g2⟩ <;> rcases bu with ⟨u1, u2⟩ | ⟨u1, u2⟩ <;> rcases bt with ⟨t1, t2⟩ | ⟨t1, t2⟩ <;> rcases bf with ⟨f1, f2⟩ | ⟨f1, f2⟩ <;> first | (exfalso; omega) | (first | (rw [pg_if_t g1, pg_if_t u1, pg_if_t f1]; done) | (rw [pg_if_t g1, pg_if_t u1, pg_if_f f1]; done) | (rw [pg_if_t g1, pg_if_f u1, pg_if_t f1]; done) | (rw [pg_if_t g1, pg_if_f u1, pg_if_f f1]; done) | (rw [pg_if_f g1, pg_if_t u1]; done) | (rw [pg_if_f g1, pg_if_f u1, pg_if_t t1]; done) | (rw [pg_if_f g1, pg_if_f u1, pg_if_f t1]; done)))
            · refine pg_re 2 (L := []) (r := some (.inl 6)) (h0 := h) rfl trivial ?_
              first | (exact ⟨ci_q0 hI, fun _ => rfl, fun hz => absurd hz (by omega)⟩) | skip
              all_goals refine ⟨ci_q0 hI, fun hz => absurd (show s = 0 ∧ 1 ≤ w ∧ w ≤ n by omega) hz, fun _ => ?_⟩
              all_goals unfold mt_stk
              all_goals (rcases bg with ⟨g1, g2⟩ | ⟨g1, g2⟩ <;> rcases bu with ⟨u1, u2⟩ | ⟨u1, u2⟩ <;> rcases bt with ⟨t1, t2⟩ | ⟨t1, t2⟩ <;> rcases bf with ⟨f1, f2⟩ | ⟨f1, f2⟩ <;> first | (exfalso; omega) | (first | (rw [pg_if_t g1, pg_if_t u1, pg_if_t f1]; done) | (rw [pg_if_t g1, pg_if_t u1, pg_if_f f1]; done) | (rw [pg_if_t g1, pg_if_f u1, pg_if_t f1]; done) | (rw [pg_if_t g1, pg_if_f u1, pg_if_f f1]; done) | (rw [pg_if_f g1, pg_if_t u1]; done) | (rw [pg_if_f g1, pg_if_f u1, pg_if_t t1]; done) | (rw [pg_if_f g1, pg_if_f u1, pg_if_f t1]; done)))
          · refine pg_br 1 (L := []) (P := pg_inR (pg_b (mt_st (h 7) n (y % n) w 1 0 0))) (c := (pg_b (mt_st (h 7) n (y % n) w 1 0 0)) = 0) (st1 := (111, [(0, .inr (.inr 0)), (1, .inl y), (2, .inl w), (3, .inl (y % n)), (4, .inl (pg_b (mt_sx (h 7) n (y % n) w 1 0))), (5, .inl (pg_b (mt_sx (h 7) n (y % n) w 0 1))), (6, .inl (pg_b (mt_sx (h 7) n (y % n) w 1 1))), (7, .inl (pg_b (mt_st (h 7) n (y % n) w 1 0 0)))], [], h)) (st2 := (106, [(0, .inr (.inr 0)), (1, .inl y), (2, .inl w), (3, .inl (y % n)), (4, .inl (pg_b (mt_sx (h 7) n (y % n) w 1 0))), (5, .inl (pg_b (mt_sx (h 7) n (y % n) w 0 1))), (6, .inl (pg_b (mt_sx (h 7) n (y % n) w 1 1))), (7, .inl (pg_b (mt_st (h 7) n (y % n) w 1 0 0)))], [], h)) rfl trivial ⟨by omega, by omega⟩ (fun c_103_9 => ?_) (fun c_103_9 => ?_)
            · refine pg_re 2 (L := []) (r := some (.inl 5)) (h0 := h) rfl trivial ?_
              first | (exact ⟨ci_q0 hI, fun _ => rfl, fun hz => absurd hz (by omega)⟩) | skip
              all_goals refine ⟨ci_q0 hI, fun hz => absurd (show s = 0 ∧ 1 ≤ w ∧ w ≤ n by omega) hz, fun _ => ?_⟩
              all_goals unfold mt_stk
              all_goals (rcases bg with ⟨g1, g2⟩ | ⟨g1, g2⟩ <;> rcases bu with ⟨u1, u2⟩ | ⟨u1, u2⟩ <;> rcases bt with ⟨t1, t2⟩ | ⟨t1, t2⟩ <;> rcases bf with ⟨f1, f2⟩ | ⟨f1, f2⟩ <;> first | (exfalso; omega) | (first | (rw [pg_if_t g1, pg_if_t u1, pg_if_t f1]; done) | (rw [pg_if_t g1, pg_if_t u1, pg_if_f f1]; done) | (rw [pg_if_t g1, pg_if_f u1, pg_if_t f1]; done) | (rw [pg_if_t g1, pg_if_f u1, pg_if_f f1]; done) | (rw [pg_if_f g1, pg_if_t u1]; done) | (rw [pg_if_f g1, pg_if_f u1, pg_if_t t1]; done) | (rw [pg_if_f g1, pg_if_f u1, pg_if_f t1]; done)))
            · refine pg_re 2 (L := []) (r := some (.inl 7)) (h0 := h) rfl trivial ?_
              first | (exact ⟨ci_q0 hI, fun _ => rfl, fun hz => absurd hz (by omega)⟩) | skip
              all_goals refine ⟨ci_q0 hI, fun hz => absurd (show s = 0 ∧ 1 ≤ w ∧ w ≤ n by omega) hz, fun _ => ?_⟩
              all_goals unfold mt_stk
              all_goals (rcases bg with ⟨g1, g2⟩ | ⟨g1, g2⟩ <;> rcases bu with ⟨u1, u2⟩ | ⟨u1, u2⟩ <;> rcases bt with ⟨t1, t2⟩ | ⟨t1, t2⟩ <;> rcases bf with ⟨f1, f2⟩ | ⟨f1, f2⟩ <;> first | (exfalso; omega) | (first | (rw [pg_if_t g1, pg_if_t u1, pg_if_t f1]; done) | (rw [pg_if_t g1, pg_if_t u1, pg_if_f f1]; done) | (rw [pg_if_t g1, pg_if_f u1, pg_if_t f1]; done) | (rw [pg_if_t g1, pg_if_f u1, pg_if_f f1]; done) | (rw [pg_if_f g1, pg_if_t u1]; done) | (rw [pg_if_f g1, pg_if_f u1, pg_if_t t1]; done) | (rw [pg_if_f g1, pg_if_f u1, pg_if_f t1]; done)))
      · refine pg_re 1 (L := []) (r := some (.inl (-2))) (h0 := h) rfl trivial ?_
        first | (exact ⟨ci_q0 hI, fun _ => rfl, fun hz => absurd hz (by omega)⟩) | skip
        all_goals refine ⟨ci_q0 hI, fun hz => absurd (show s = 0 ∧ 1 ≤ w ∧ w ≤ n by omega) hz, fun _ => ?_⟩
        all_goals unfold mt_stk
        all_goals (rcases bg with ⟨g1, g2⟩ | ⟨g1, g2⟩ <;> rcases bu with ⟨u1, u2⟩ | ⟨u1, u2⟩ <;> rcases bt with ⟨t1, t2⟩ | ⟨t1, t2⟩ <;> rcases bf with ⟨f1, f2⟩ | ⟨f1, f2⟩ <;> first | (exfalso; omega) | (first | (rw [pg_if_t g1, pg_if_t u1, pg_if_t f1]; done) | (rw [pg_if_t g1, pg_if_t u1, pg_if_f f1]; done) | (rw [pg_if_t g1, pg_if_f u1, pg_if_t f1]; done) | (rw [pg_if_t g1, pg_if_f u1, pg_if_f f1]; done) | (rw [pg_if_f g1, pg_if_t u1]; done) | (rw [pg_if_f g1, pg_if_f u1, pg_if_t t1]; done) | (rw [pg_if_f g1, pg_if_f u1, pg_if_f t1]; done)))
theorem ct_generate {h : pg_H} {s n : Int} (hI : ci_I h s n) (k : Int) (hk : pg_inR k) (u : Int) (hu : pg_inR u) (v : Int) (hv : pg_inR v) : pg_Sem true pm_P_generate [.inr (.inr 0), .inl k, .inl u, .inl v] h (fun r h' => (¬ (0 ≤ k ∧ k < 2 * mt_rd s) ∧ r = some (.inl (-2)) ∧ h' = h) ∨ ((0 ≤ k ∧ k < 2 * mt_rd s) ∧ h 20 4 = 6 ∧ r = some (.inl (-3)) ∧ h' = h) ∨ ((0 ≤ k ∧ k < 2 * mt_rd s) ∧ h 20 4 < 6 ∧ r = some (.inl (h 20 4 + 1)) ∧ h' = pg_up (pg_up h 21 (h 20 4).toNat (mt_cd n k u v)) 20 4 (h 20 4 + 1) ∧ ci_I h' s n)) := by
  obtain ⟨hQ, hRc, hPo, hSg, hHv, hGn⟩ := id hI
  obtain ⟨hB, hC, hS, -, -⟩ := id hQ
  obtain ⟨hs, ⟨hn1, hn2⟩, e1, e2, e3, e5⟩ := id hB
  have hr := mt_rd_or hs
  obtain ⟨k1, k2⟩ := hk
  obtain ⟨u1, u2⟩ := hu
  obtain ⟨v1, v2⟩ := hv
  have hif1 : ((if 0 ≤ k ∧ k < 2 * mt_rd s then (1 : Int) else 0) = 1 ∧ (0 ≤ k ∧ k < 2 * mt_rd s)) ∨ ((if 0 ≤ k ∧ k < 2 * mt_rd s then (1 : Int) else 0) = 0 ∧ ¬ (0 ≤ k ∧ k < 2 * mt_rd s)) := by split <;> simp_all
  refine pg_Sem_of pm_P_generate_f rfl ?_
  refine pg_ca 3 (L := []) (Mc := pm_M_isLinear) (as := [.inr (.inr 4), .inl k]) (h0 := h) (pc := 8) (lv := [(0, .inr (.inr 0)), (1, .inl k), (2, .inl u), (3, .inl v)]) (rest := []) rfl trivial (cm_isLinear hB k ⟨by omega, by omega⟩) ?_
  intro r_1 h_1 e_1; rw [e_1.1, e_1.2]
  refine pg_br 0 (L := []) (P := pg_inR (if 0 ≤ k ∧ k < 2 * mt_rd s then 1 else 0)) (c := ¬ (if 0 ≤ k ∧ k < 2 * mt_rd s then 1 else 0) = 0) (st1 := (14, [(0, .inr (.inr 0)), (1, .inl k), (2, .inl u), (3, .inl v)], [], h)) (st2 := (11, [(0, .inr (.inr 0)), (1, .inl k), (2, .inl u), (3, .inl v)], [], h)) rfl trivial ⟨by omega, by omega⟩ (fun c_8_1 => ?_) (fun c_8_1 => ?_)
  · refine pg_ca 7 (L := []) (Mc := pm_M_code) (as := [.inr (.inr 4), .inl k, .inl u, .inl v]) (h0 := h) (pc := 28) (lv := [(0, .inr (.inr 0)), (1, .inl k), (2, .inl u), (3, .inl v)]) (rest := [.inr (.inr 20)]) rfl trivial (cm_code hB k u v ⟨by omega, by omega⟩ ⟨by omega, by omega⟩) ?_
    intro r_1 h_1 e_1; rw [e_1.1, e_1.2]
    refine pg_ca 0 (L := []) (Mc := pm_N_add) (as := [.inr (.inr 20), .inl (mt_cd n k u v)]) (h0 := h) (pc := 31) (lv := [(0, .inr (.inr 0)), (1, .inl k), (2, .inl u), (3, .inl v)]) (rest := []) rfl trivial (gn_add hGn (mt_cd n k u v)) ?_
    intro r_1 g hadd
    have hr1 : ∃ z : Int, r_1 = some (.inl z) := by rcases hadd with ⟨-, a2, -⟩ | ⟨-, a2, -⟩ <;> exact ⟨_, a2⟩
    obtain ⟨zr, ezr⟩ := hr1
    rw [ezr] at hadd ⊢
    refine pg_re 0 (L := []) (r := some (.inl (zr))) (h0 := g) rfl trivial ?_
    rcases hadd with ⟨a1, a2, a3⟩ | ⟨a1, a2, a3⟩
    · rw [Option.some.inj a2 |> Sum.inl.inj, a3]; exact Or.inr (Or.inl ⟨by omega, a1, rfl, rfl⟩)
    · rw [Option.some.inj a2 |> Sum.inl.inj, a3]; exact Or.inr (Or.inr ⟨by omega, a1, rfl, rfl, ct_gen_I hI (by omega) a1⟩)
  · refine pg_re 1 (L := []) (r := some (.inl (-2))) (h0 := h) rfl trivial ?_
    exact Or.inl ⟨by omega, rfl, rfl⟩
