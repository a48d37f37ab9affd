/-! Symmetries: study -/
theorem cp_S_bd {h : pg_H} {n : Int} (hS : cp_S h n) (hn : n * n ≤ 144) : ∀ c : Nat, c < 10 → 0 ≤ h 8 c ∧ h 8 c ≤ 1000 := by
  intro c hc
  rw [hS c hc]
  have := pg_cn_bd (fun p => h 7 p = (c : Int)) (n * n).toNat
  omega
def sy_L (h : pg_H) (s n : Int) (g : pg_H) (k : Int) : Prop := pg_fr [10, 11, 12] h g ∧ g 10 8 = h 10 8 ∧ sy_A (h 7) s n (g 10 4) ∧ sy_BC (h 7) s n (g 10 4) (g 10 5) (g 10 6) ∧ (∀ j : Nat, (j : Int) < k → sy_K g s n j) ∧ g 10 7 = pg_cn (fun j => g 11 j ≠ -1) k.toNat
theorem sy_L_no {h g : pg_H} {s n k : Int} (hk : 0 ≤ k) (hL : sy_L h s n g k) (hno : ∀ u v : Int, 0 ≤ u → u < g 10 4 → 0 ≤ v → v < g 10 6 → ¬ mt_sym (g 7) s n k u v) : sy_L h s n (pg_up g 11 k.toNat (-1)) (k + 1) := by
  obtain ⟨h1, h2, h3, h4, h5, h6⟩ := hL
  refine ⟨pg_fr_up h1 (by decide) _ _, h2, h3, h4, fun j hj => ?_, ?_⟩
  · have e : ∀ q, q ≠ 11 → pg_up g 11 k.toNat (-1) q = g q := fun q hq => pg_up_ne _ _ _ hq
    unfold sy_K
    rw [e 10 (by decide), e 7 (by decide), e 12 (by decide), pg_up_at]
    rcases (show (j : Int) < k ∨ j = k.toNat by omega) with hj | rfl
    · rw [if_neg (by omega)]
      exact h5 j hj
    · rw [if_pos rfl, show ((k.toNat : Nat) : Int) = k by omega]
      exact Or.inl ⟨rfl, hno⟩
  · show g 10 7 = _
    rw [show (k + 1).toNat = k.toNat + 1 by omega]
    simp only [pg_cn]
    rw [pg_up_at, if_pos rfl, pg_b_f (by omega), h6]
    have : pg_cn (fun j => g 11 j ≠ -1) k.toNat = pg_cn (fun j => pg_up g 11 k.toNat (-1) 11 j ≠ -1) k.toNat := pg_cn_congr (fun j hj => by rw [pg_up_at, if_neg (by omega)])
    rw [this]
    omega
theorem sy_L_yes {h g : pg_H} {s n k u v : Int} (hk : 0 ≤ k) (hL : sy_L h s n g k) (hu : 0 ≤ u ∧ u < g 10 4) (hv : 0 ≤ v ∧ v < g 10 6) (hs : mt_sym (g 7) s n k u v) : sy_L h s n (pg_up (pg_up (pg_up (pg_up g 11 k.toNat (-1)) 11 k.toNat u) 12 k.toNat v) 10 7 (g 10 7 + 1)) (k + 1) := by
  obtain ⟨h1, h2, h3, h4, h5, h6⟩ := hL
  have e11 : ∀ j, pg_up (pg_up (pg_up (pg_up g 11 k.toNat (-1)) 11 k.toNat u) 12 k.toNat v) 10 7 (g 10 7 + 1) 11 j = if j = k.toNat then u else g 11 j := by
    intro j
    rw [pg_up_ne _ _ _ (by decide), pg_up_ne _ _ _ (by decide), pg_up_at, pg_up_at]
    split <;> rfl
  have e12 : ∀ j, pg_up (pg_up (pg_up (pg_up g 11 k.toNat (-1)) 11 k.toNat u) 12 k.toNat v) 10 7 (g 10 7 + 1) 12 j = if j = k.toNat then v else g 12 j := by
    intro j
    rw [pg_up_ne _ _ _ (by decide), pg_up_at, pg_up_ne _ _ _ (by decide), pg_up_ne _ _ _ (by decide)]
  refine ⟨pg_fr_up (pg_fr_up (pg_fr_up (pg_fr_up h1 (by decide) _ _) (by decide) _ _) (by decide) _ _) (by decide) _ _, h2, h3, h4, fun j hj => ?_, ?_⟩
  · unfold sy_K
    rw [e11, e12]
    show (_ ∧ ∀ u v : Int, 0 ≤ u → u < g 10 4 → 0 ≤ v → v < g 10 6 → ¬ mt_sym (g 7) s n j u v) ∨ _
    rcases (show (j : Int) < k ∨ j = k.toNat by omega) with hj | rfl
    · rw [if_neg (by omega), if_neg (by omega)]
      exact h5 j hj
    · rw [if_pos rfl, if_pos rfl, show ((k.toNat : Nat) : Int) = k by omega]
      exact Or.inr ⟨hu, hv, hs⟩
  · show g 10 7 + 1 = _
    rw [show (k + 1).toNat = k.toNat + 1 by omega]
    simp only [pg_cn]
    rw [e11, if_pos rfl, pg_b_t (by omega)]
    have : pg_cn (fun j => g 11 j ≠ -1) k.toNat = pg_cn (fun j => pg_up (pg_up (pg_up (pg_up g 11 k.toNat (-1)) 11 k.toNat u) 12 k.toNat v) 10 7 (g 10 7 + 1) 11 j ≠ -1) k.toNat := pg_cn_congr (fun j hj => by rw [e11, if_neg (by omega)])
    rw [← this, ← h6]
theorem cp_C_fr {h g : pg_H} {cs : List Nat} (hC : cp_C h) (hf : pg_fr cs h g) (h7 : 7 ∉ cs) : cp_C g := fun p hp => by
  rw [hf 7 h7]
  exact hC p hp
theorem cp_S_fr {h g : pg_H} {n : Int} {cs : List Nat} (hS : cp_S h n) (hf : pg_fr cs h g) (h7 : 7 ∉ cs) (h8 : 8 ∉ cs) : cp_S g n := fun c hc => by
  rw [hf 7 h7, hf 8 h8]
  exact hS c hc
theorem cs_study_l {h : pg_H} {s n : Int} (hB : cm_B h s n) (hC : cp_C h) {an : Int} (han : 0 ≤ an ∧ an < n * n) : ∀ (d : Nat) (g : pg_H) (k : Int) (hd : k + (d : Int) = 2 * mt_rd s) (hk0 : 0 ≤ k) (hL : sy_L h s n g k), pg_Good true pm_S_study (fun r h' => r = none ∧ pg_fr [10, 11, 12] h h' ∧ h' 10 9 = 1 ∧ h' 10 8 = h 10 8 ∧ sy_D h' s n) (35, [(0, .inr (.inr 10)), (1, .inl an), (2, .inl k)], [], g) := by
  intro d
  induction d with
  | zero =>
    intro g k hd hk0 hL
    obtain ⟨hs, ⟨hn1, hn2⟩, e1, e2, e3, e5⟩ := id hB
    have hr := mt_rd_or hs
    have hf := hL.1
    have hBg := cm_B_fr hB hf (by decide) (by decide)
    have hCg := cp_C_fr hC hf (by decide)
    have ha := hL.2.2.1.1
    have hc := hL.2.2.2.1.1
    have e7 : g 7 = h 7 := hf 7 (by decide)
    refine pg_ca 3 (L := []) (Mc := pm_M_linears) (as := [.inr (.inr 4)]) (h0 := g) (pc := 43) (lv := [(0, .inr (.inr 10)), (1, .inl an), (2, .inl k)]) (rest := [.inl k]) rfl trivial (cm_linears hBg) ?_
    intro r_1 h_1 e_1; rw [e_1.1, e_1.2]
    refine pg_br 0 (L := []) (P := pg_inR k ∧ pg_inR (2 * mt_rd s)) (c := (2 * mt_rd s) ≤ k) (st1 := (85, [(0, .inr (.inr 10)), (1, .inl an), (2, .inl k)], [], g)) (st2 := (46, [(0, .inr (.inr 10)), (1, .inl an), (2, .inl k)], [], g)) rfl trivial ⟨⟨by omega, by omega⟩, ⟨by omega, by omega⟩⟩ (fun c_43_1 => ?_) (fun c_43_1 => ?_)
    · refine pg_re 3 (L := [1 = 0 ∨ 1 = 1]) (r := none) (h0 := pg_up g 10 9 1) rfl (Or.inr rfl) ?_
      obtain ⟨h1, h2, h3, h4, h5, h6⟩ := hL
      refine ⟨rfl, pg_fr_up h1 (by decide) _ _, rfl, h2, ?_⟩
      rw [show k = 2 * mt_rd s by omega] at h5 h6
      rw [← e7] at h3 h4
      exact ⟨h3, h4, h5, h6⟩
    · exact (by exfalso; omega)
  | succ d ih =>
    intro g k hd hk0 hL
    obtain ⟨hs, ⟨hn1, hn2⟩, e1, e2, e3, e5⟩ := id hB
    have hr := mt_rd_or hs
    have hf := hL.1
    have hBg := cm_B_fr hB hf (by decide) (by decide)
    have hCg := cp_C_fr hC hf (by decide)
    have ha := hL.2.2.1.1
    have hc := hL.2.2.2.1.1
    have e7 : g 7 = h 7 := hf 7 (by decide)
    have ha : 1 ≤ g 10 4 ∧ g 10 4 ≤ 12 := ⟨ha.1, by omega⟩
    have hc : 1 ≤ g 10 6 ∧ g 10 6 ≤ 12 := ⟨hc.1, by omega⟩
    have hln := (pg_cn_bd (fun j => g 11 j ≠ -1) k.toNat)
    refine pg_ca 3 (L := []) (Mc := pm_M_linears) (as := [.inr (.inr 4)]) (h0 := g) (pc := 43) (lv := [(0, .inr (.inr 10)), (1, .inl an), (2, .inl k)]) (rest := [.inl k]) rfl trivial (cm_linears hBg) ?_
    intro r_1 h_1 e_1; rw [e_1.1, e_1.2]
    refine pg_br 0 (L := []) (P := pg_inR k ∧ pg_inR (2 * mt_rd s)) (c := (2 * mt_rd s) ≤ k) (st1 := (85, [(0, .inr (.inr 10)), (1, .inl an), (2, .inl k)], [], g)) (st2 := (46, [(0, .inr (.inr 10)), (1, .inl an), (2, .inl k)], [], g)) rfl trivial ⟨⟨by omega, by omega⟩, ⟨by omega, by omega⟩⟩ (fun c_43_2 => ?_) (fun c_43_2 => ?_)
    · exact (by exfalso; omega)
    · refine pg_ca 8 (L := [0 ≤ k ∧ k < (12 : Int)]) (Mc := pm_S_findOne) (as := [.inr (.inr 10), .inl k, .inl an]) (h0 := pg_up g 11 k.toNat (-1)) (pc := 59) (lv := [(0, .inr (.inr 10)), (1, .inl an), (2, .inl k)]) (rest := []) rfl ⟨by omega, by omega⟩ (cs_fo (h := pg_up g 11 k.toNat (-1)) (cm_B_up hBg (by decide) (by decide)) (by exact hCg) (by exact ha) (by exact hc) (k := k) (an := an) ⟨by omega, by omega⟩ han) ?_
      intro r_1 h_1 e_1
      obtain ⟨er_, ⟨eh_, hno_⟩ | ⟨u_, v_, hu_, hv_, hs_, eh_⟩⟩ := e_1
      all_goals rw [er_, eh_]
      · have hr1 : pg_up g 11 k.toNat (-1) 11 k.toNat = -1 := by rw [pg_up_at, if_pos rfl]
        refine pg_br 5 (L := [0 ≤ k ∧ k < (12 : Int)]) (P := pg_inR ((pg_up g 11 k.toNat (-1)) 11 k.toNat) ∧ pg_inR (-1)) (c := ((pg_up g 11 k.toNat (-1)) 11 k.toNat) = (-1)) (st1 := (79, [(0, .inr (.inr 10)), (1, .inl an), (2, .inl k)], [], pg_up g 11 k.toNat (-1))) (st2 := (69, [(0, .inr (.inr 10)), (1, .inl an), (2, .inl k)], [], pg_up g 11 k.toNat (-1))) rfl ⟨by omega, by omega⟩ ⟨⟨by omega, by omega⟩, ⟨by decide, by decide⟩⟩ (fun c_66_3 => ?_) (fun c_66_3 => ?_)
        · refine pg_go 2 (L := []) (st' := (35, [(0, .inr (.inr 10)), (1, .inl an), (2, .inl (k + 1))], [], pg_up g 11 k.toNat (-1))) rfl trivial ?_
          exact ih _ _ (by omega) (by omega) (sy_L_no hk0 hL hno_)
        · exact (by exfalso; omega)
      · have hr1 : pg_up (pg_up g 11 k.toNat (-1)) 11 k.toNat u_ 11 k.toNat = u_ := by rw [pg_up_at, if_pos rfl]
        have hu_ : 0 ≤ u_ ∧ u_ < g 10 4 := hu_
        refine pg_br 5 (L := [0 ≤ k ∧ k < (12 : Int)]) (P := pg_inR ((pg_up (pg_up g 11 k.toNat (-1)) 11 k.toNat u_) 11 k.toNat) ∧ pg_inR (-1)) (c := ((pg_up (pg_up g 11 k.toNat (-1)) 11 k.toNat u_) 11 k.toNat) = (-1)) (st1 := (79, [(0, .inr (.inr 10)), (1, .inl an), (2, .inl k)], [], pg_up (pg_up (pg_up g 11 k.toNat (-1)) 11 k.toNat u_) 12 k.toNat v_)) (st2 := (69, [(0, .inr (.inr 10)), (1, .inl an), (2, .inl k)], [], pg_up (pg_up (pg_up g 11 k.toNat (-1)) 11 k.toNat u_) 12 k.toNat v_)) rfl ⟨by omega, by omega⟩ ⟨⟨by omega, by omega⟩, ⟨by decide, by decide⟩⟩ (fun c_66_4 => ?_) (fun c_66_4 => ?_)
        · exact (by exfalso; omega)
        · refine pg_go 8 (L := []) (st' := (35, [(0, .inr (.inr 10)), (1, .inl an), (2, .inl (k + 1))], [], pg_up (pg_up (pg_up (pg_up g 11 k.toNat (-1)) 11 k.toNat u_) 12 k.toNat v_) 10 7 ((g 10 7) + 1))) rfl trivial ?_
          exact ih _ _ (by omega) (by omega) (sy_L_yes hk0 hL hu_ hv_ hs_)
theorem cs_study {h : pg_H} {s n : Int} (hB : cm_B h s n) (hC : cp_C h) (hS : cp_S h n) (hKn : h 10 9 = 0 ∨ (h 10 9 = 1 ∧ sy_D h s n)) : pg_Sem true pm_S_study [.inr (.inr 10)] h (fun r h' => r = none ∧ pg_fr [10, 11, 12] h h' ∧ h' 10 9 = 1 ∧ h' 10 8 = h 10 8 ∧ sy_D h' s n) := by
  obtain ⟨hs, ⟨hn1, hn2⟩, e1, e2, e3, e5⟩ := id hB
  have hr := mt_rd_or hs
  have hR := cp_S_bd hS (mt_nn hn1 hn2).2.1
  refine pg_Sem_of pm_S_study_f rfl ?_
  refine pg_br 2 (L := []) (P := pg_inR (h 10 9)) (c := (h 10 9) = 0) (st1 := (8, [(0, .inr (.inr 10))], [], h)) (st2 := (7, [(0, .inr (.inr 10))], [], h)) rfl trivial ⟨by omega, by omega⟩ (fun c_4_1 => ?_) (fun c_4_1 => ?_)
  · refine pg_ca 2 (L := []) (Mc := pm_S_leastStepAlong) (as := [.inr (.inr 10)]) (h0 := h) (pc := 13) (lv := [(0, .inr (.inr 10))]) (rest := [.inr (.inr 10)]) rfl trivial (cs_lsa hB hC) ?_
    intro r_1 h_1 e_1; obtain ⟨a_, hA_, er_, eh_⟩ := e_1; rw [er_, eh_]; have hA1_ := hA_.1
    refine pg_ca 2 (L := []) (Mc := pm_S_findSecondStep) (as := [.inr (.inr 10)]) (h0 := pg_up h 10 4 a_) (pc := 20) (lv := [(0, .inr (.inr 10))]) (rest := []) rfl trivial (cs_fss (h := pg_up h 10 4 a_) (cm_B_up hB (by decide) (by decide)) (by exact hC) (show 1 ≤ a_ ∧ a_ ≤ 12 from ⟨hA1_.1, by omega⟩)) ?_
    intro r_1 h_1 e_1; obtain ⟨b_, c_, hBC_, er_, eh_⟩ := e_1; rw [er_, eh_]
    refine pg_ca 5 (L := []) (Mc := pm_C_rarestPoint) (as := [.inr (.inr 6)]) (h0 := pg_up (pg_up (pg_up (pg_up h 10 4 a_) 10 5 b_) 10 6 c_) 10 7 0) (pc := 32) (lv := [(0, .inr (.inr 10))]) (rest := []) rfl trivial (cp_rare (h := pg_up (pg_up (pg_up (pg_up h 10 4 a_) 10 5 b_) 10 6 c_) 10 7 0) (cm_B_up (cm_B_up (cm_B_up (cm_B_up hB (by decide) (by decide)) (by decide) (by decide)) (by decide) (by decide)) (by decide) (by decide)) (by exact hC) (by exact hR)) ?_
    intro r_1 h_1 e_1; obtain ⟨an_, han_, er_, eh_⟩ := e_1; rw [er_, eh_]
    refine pg_go 3 (L := []) (st' := (35, [(0, .inr (.inr 10)), (1, .inl an_), (2, .inl 0)], [], pg_up (pg_up (pg_up (pg_up h 10 4 a_) 10 5 b_) 10 6 c_) 10 7 0)) rfl trivial ?_
    refine cs_study_l hB hC han_ (2 * mt_rd s).toNat _ _ (by omega) (by omega) ⟨pg_fr_up (pg_fr_up (pg_fr_up (pg_fr_up (pg_fr_rf _ _) (by decide) _ _) (by decide) _ _) (by decide) _ _) (by decide) _ _, rfl, hA_, hBC_, fun j hj => by omega, rfl⟩
  · refine pg_re 0 (L := []) (r := none) (h0 := h) rfl trivial ?_
    rcases hKn with hq | ⟨hq1, hq2⟩
    · omega
    · exact ⟨rfl, pg_fr_rf _ _, hq1, rfl, hq2⟩
