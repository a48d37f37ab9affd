/-! PointClasses: study -/
noncomputable def pg_if (P : Prop) (a b : Int) : Int := @ite Int P (Classical.propDecidable P) a b
theorem pg_if_t {P : Prop} (h : P) (a b : Int) : pg_if P a b = a := if_pos h
theorem pg_if_f {P : Prop} (h : ¬ P) (a b : Int) : pg_if P a b = b := if_neg h
/-- the first of each class, when the points are gone through in order -/
noncomputable def po_F (T : Nat → Nat → Prop) : Nat → Nat → Int
  | 0, _ => -1
  | j + 1, q => pg_if (po_F T j j = -1 ∧ T j q) j (po_F T j q)
theorem po_F_bd (T : Nat → Nat → Prop) (j q : Nat) : -1 ≤ po_F T j q ∧ po_F T j q < j := by
  induction j with
  | zero => exact ⟨Int.le_refl _, (by decide : (-1 : Int) < 0)⟩
  | succ j ih =>
    simp only [po_F]
    rcases Classical.em (po_F T j j = -1 ∧ T j q) with h | h
    · rw [pg_if_t h]; omega
    · rw [pg_if_f h]; omega
def po_Tn (h : pg_H) (s n : Int) : Nat → Nat → Prop := fun p q => po_T h s n p q
theorem po_T_fr {h g : pg_H} (h10 : ∀ j, j ≠ 8 → j ≠ 9 → g 10 j = h 10 j) (h11 : g 11 = h 11) (h12 : g 12 = h 12) (s n : Int) : po_Tn g s n = po_Tn h s n := by
  funext p q
  unfold po_Tn po_T
  rw [h10 4 (by decide) (by decide), h10 5 (by decide) (by decide), h10 6 (by decide) (by decide), h11, h12]
def po_D (h : pg_H) (s n : Int) : Prop := (∀ q : Nat, (q : Int) < n * n → h 14 q = po_F (po_Tn h s n) (n * n).toNat q) ∧ h 13 3 = pg_cn (fun j => po_F (po_Tn h s n) j j = -1) (n * n).toNat
set_option maxHeartbeats 4000000 in
theorem po_st_2 {h : pg_H} {s n : Int} (hB : cm_B h s n) (hR : sy_R h s) : ∀ (d : Nat) (g : pg_H) (j : Int) (hd : j + (d : Int) = n * n) (hj : 0 ≤ j) (hf : pg_fr [13, 14] h g) (hI : ∀ q : Nat, (q : Int) < n * n → g 14 q = po_F (po_Tn h s n) j.toNat q) (hn3 : g 13 3 = pg_cn (fun j => po_F (po_Tn h s n) j j = -1) j.toNat), pg_Good true pm_O_study (fun r h' => r = none ∧ pg_fr [13, 14] h h' ∧ h' 13 4 = 1 ∧ po_D h' s n) (48, [(0, .inr (.inr 13)), (1, .inl j)], [], g) := by
  intro d
  induction d with
  | zero =>
    intro g j hd hj hf hI hn3
    obtain ⟨hs, ⟨hn1, hn2⟩, e1, e2, e3, e5⟩ := id hB
    have hr := mt_rd_or hs
    obtain ⟨ra, rb, rc, rl, rk⟩ := id hR
    have hnn := mt_nn hn1 hn2
    have hBg := cm_B_fr hB hf (by decide) (by decide)
    have hRg := sy_R_fr hf (by decide) (by decide) (by decide) hR
    have eT : po_Tn g s n = po_Tn h s n := po_T_fr (fun j _ _ => by rw [hf 10 (by decide)]) (hf 11 (by decide)) (hf 12 (by decide)) s n
    refine pg_ca 3 (L := []) (Mc := pm_M_points) (as := [.inr (.inr 4)]) (h0 := g) (pc := 56) (lv := [(0, .inr (.inr 13)), (1, .inl j)]) (rest := [.inl j]) rfl trivial (cm_points hBg) ?_
    intro r_1 h_1 e_1; rw [e_1.1, e_1.2]
    refine pg_br 0 (L := []) (P := pg_inR j ∧ pg_inR (n * n)) (c := (n * n) ≤ j) (st1 := (90, [(0, .inr (.inr 13)), (1, .inl j)], [], g)) (st2 := (59, [(0, .inr (.inr 13)), (1, .inl j)], [], g)) rfl trivial ⟨⟨by omega, by omega⟩, ⟨by omega, by omega⟩⟩ (fun c_56_1 => ?_) (fun c_56_1 => ?_)
    · refine pg_re 3 (L := [1 = 0 ∨ 1 = 1]) (r := none) (h0 := pg_up g 13 4 1) rfl (Or.inr rfl) ?_
      refine ⟨rfl, pg_fr_up hf (by decide) _ _, rfl, ?_, ?_⟩
      · intro q hq
        show g 14 q = po_F (po_Tn g s n) _ q
        rw [eT, show n * n = j by omega]
        exact hI q hq
      · show g 13 3 = pg_cn (fun j => po_F (po_Tn g s n) j j = -1) _
        rw [eT, show n * n = j by omega]
        exact hn3
    · exact (by exfalso; omega)
  | succ d ih =>
    intro g j hd hj hf hI hn3
    obtain ⟨hs, ⟨hn1, hn2⟩, e1, e2, e3, e5⟩ := id hB
    have hr := mt_rd_or hs
    obtain ⟨ra, rb, rc, rl, rk⟩ := id hR
    have hnn := mt_nn hn1 hn2
    have hBg := cm_B_fr hB hf (by decide) (by decide)
    have hRg := sy_R_fr hf (by decide) (by decide) (by decide) hR
    have eT : po_Tn g s n = po_Tn h s n := po_T_fr (fun j _ _ => by rw [hf 10 (by decide)]) (hf 11 (by decide)) (hf 12 (by decide)) s n
    have hb1 := po_F_bd (po_Tn h s n) j.toNat j.toNat
    have hb2 := hI j.toNat (by omega)
    refine pg_ca 3 (L := []) (Mc := pm_M_points) (as := [.inr (.inr 4)]) (h0 := g) (pc := 56) (lv := [(0, .inr (.inr 13)), (1, .inl j)]) (rest := [.inl j]) rfl trivial (cm_points hBg) ?_
    intro r_1 h_1 e_1; rw [e_1.1, e_1.2]
    refine pg_br 0 (L := []) (P := pg_inR j ∧ pg_inR (n * n)) (c := (n * n) ≤ j) (st1 := (90, [(0, .inr (.inr 13)), (1, .inl j)], [], g)) (st2 := (59, [(0, .inr (.inr 13)), (1, .inl j)], [], g)) rfl trivial ⟨⟨by omega, by omega⟩, ⟨by omega, by omega⟩⟩ (fun c_56_2 => ?_) (fun c_56_2 => ?_)
    · exact (by exfalso; omega)
    · refine pg_br 5 (L := [0 ≤ j ∧ j < (144 : Int)]) (P := pg_inR (g 14 j.toNat) ∧ pg_inR (-1)) (c := ¬ (g 14 j.toNat) = (-1)) (st1 := (84, [(0, .inr (.inr 13)), (1, .inl j)], [], g)) (st2 := (69, [(0, .inr (.inr 13)), (1, .inl j)], [], g)) rfl ⟨by omega, by omega⟩ ⟨⟨by omega, by omega⟩, ⟨by decide, by decide⟩⟩ (fun c_66_3 => ?_) (fun c_66_3 => ?_)
      · refine pg_go 2 (L := []) (st' := (48, [(0, .inr (.inr 13)), (1, .inl (j + 1))], [], g)) rfl trivial ?_
        have ek : (j + 1).toNat = j.toNat + 1 := by omega
        have ek2 : ((j.toNat : Nat) : Int) = j := by omega
        have hj1 : ¬ po_F (po_Tn h s n) j.toNat j.toNat = -1 := by rw [← hI j.toNat (by omega)]; omega
        refine ih g _ (by omega) (by omega) hf (fun q hq => ?_) ?_
        · rw [ek]
          simp only [po_F]
          rw [pg_if_f (fun hw => hj1 hw.1)]
          exact hI q hq
        · rw [ek, hn3]
          simp only [pg_cn]
          rw [pg_b_f hj1]
          omega
      · refine pg_ca 8 (L := []) (Mc := pm_O_markClass) (as := [.inr (.inr 13), .inl j]) (h0 := pg_up g 13 3 ((g 13 3) + 1)) (pc := 84) (lv := [(0, .inr (.inr 13)), (1, .inl j)]) (rest := []) rfl trivial (po_mc (h := pg_up g 13 3 ((g 13 3) + 1)) (cm_B_up hBg (by decide) (by decide)) (by exact hRg) (p := j) ⟨by omega, by omega⟩) ?_
        intro r_1 g2 e_1; obtain ⟨er_, ef_, eI_⟩ := e_1; rw [er_]; have hf1 := pg_fr_up hf (cs := [13, 14]) (q := 13) (by decide) 3 (g 13 3 + 1); have hf2 := pg_fr_tr hf1 ef_ (by decide)
        refine pg_go 2 (L := []) (st' := (48, [(0, .inr (.inr 13)), (1, .inl (j + 1))], [], g2)) rfl trivial ?_
        have ek : (j + 1).toNat = j.toNat + 1 := by omega
        have ek2 : ((j.toNat : Nat) : Int) = j := by omega
        have hj1 : po_F (po_Tn h s n) j.toNat j.toNat = -1 := by rw [← hI j.toNat (by omega)]; omega
        refine ih g2 _ (by omega) (by omega) hf2 (fun q hq => ?_) ?_
        · rw [ek]
          simp only [po_F]
          obtain ⟨i1, i2⟩ := eI_ q
          have eT2 : po_T (pg_up g 13 3 (g 13 3 + 1)) s n j q ↔ po_Tn h s n j.toNat q := by
            rw [← eT]; unfold po_Tn; rw [ek2]; exact Iff.rfl
          rcases Classical.em (po_Tn h s n j.toNat q) with hz | hz
          · rw [pg_if_t ⟨hj1, hz⟩, i1 (eT2.mpr hz), ek2]
          · rw [pg_if_f (fun hw => hz hw.2), i2 (fun hw => hz (eT2.mp hw))]
            exact hI q hq
        · rw [ek, show g2 13 3 = g 13 3 + 1 by rw [ef_ 13 (by decide)]; rfl, hn3]
          simp only [pg_cn]
          rw [pg_b_t hj1]
theorem po_st_1 {h : pg_H} {s n : Int} (hB : cm_B h s n) (hR : sy_R h s) : ∀ (d : Nat) (g : pg_H) (j : Int) (hd : j + (d : Int) = n * n) (hj : 0 ≤ j) (hf : pg_fr [13, 14] h g) (hI : ∀ q : Nat, (q : Int) < j → g 14 q = -1) (hn3 : g 13 3 = 0), pg_Good true pm_O_study (fun r h' => r = none ∧ pg_fr [13, 14] h h' ∧ h' 13 4 = 1 ∧ po_D h' s n) (22, [(0, .inr (.inr 13)), (1, .inl j)], [], g) := by
  intro d
  induction d with
  | zero =>
    intro g j hd hj hf hI hn3
    obtain ⟨hs, ⟨hn1, hn2⟩, e1, e2, e3, e5⟩ := id hB
    have hr := mt_rd_or hs
    obtain ⟨ra, rb, rc, rl, rk⟩ := id hR
    have hnn := mt_nn hn1 hn2
    have hBg := cm_B_fr hB hf (by decide) (by decide)
    have hRg := sy_R_fr hf (by decide) (by decide) (by decide) hR
    have eT : po_Tn g s n = po_Tn h s n := po_T_fr (fun j _ _ => by rw [hf 10 (by decide)]) (hf 11 (by decide)) (hf 12 (by decide)) s n
    refine pg_ca 3 (L := []) (Mc := pm_M_points) (as := [.inr (.inr 4)]) (h0 := g) (pc := 30) (lv := [(0, .inr (.inr 13)), (1, .inl j)]) (rest := [.inl j]) rfl trivial (cm_points hBg) ?_
    intro r_1 h_1 e_1; rw [e_1.1, e_1.2]
    refine pg_br 0 (L := []) (P := pg_inR j ∧ pg_inR (n * n)) (c := (n * n) ≤ j) (st1 := (46, [(0, .inr (.inr 13)), (1, .inl j)], [], g)) (st2 := (33, [(0, .inr (.inr 13)), (1, .inl j)], [], g)) rfl trivial ⟨⟨by omega, by omega⟩, ⟨by omega, by omega⟩⟩ (fun c_30_1 => ?_) (fun c_30_1 => ?_)
    · refine pg_go 2 (L := []) (st' := (48, [(0, .inr (.inr 13)), (1, .inl 0)], [], g)) rfl trivial ?_
      exact po_st_2 hB hR (n * n).toNat g _ (by omega) (by omega) hf (fun q hq => hI q (by omega)) hn3
    · exact (by exfalso; omega)
  | succ d ih =>
    intro g j hd hj hf hI hn3
    obtain ⟨hs, ⟨hn1, hn2⟩, e1, e2, e3, e5⟩ := id hB
    have hr := mt_rd_or hs
    obtain ⟨ra, rb, rc, rl, rk⟩ := id hR
    have hnn := mt_nn hn1 hn2
    have hBg := cm_B_fr hB hf (by decide) (by decide)
    have hRg := sy_R_fr hf (by decide) (by decide) (by decide) hR
    have eT : po_Tn g s n = po_Tn h s n := po_T_fr (fun j _ _ => by rw [hf 10 (by decide)]) (hf 11 (by decide)) (hf 12 (by decide)) s n
    refine pg_ca 3 (L := []) (Mc := pm_M_points) (as := [.inr (.inr 4)]) (h0 := g) (pc := 30) (lv := [(0, .inr (.inr 13)), (1, .inl j)]) (rest := [.inl j]) rfl trivial (cm_points hBg) ?_
    intro r_1 h_1 e_1; rw [e_1.1, e_1.2]
    refine pg_br 0 (L := []) (P := pg_inR j ∧ pg_inR (n * n)) (c := (n * n) ≤ j) (st1 := (46, [(0, .inr (.inr 13)), (1, .inl j)], [], g)) (st2 := (33, [(0, .inr (.inr 13)), (1, .inl j)], [], g)) rfl trivial ⟨⟨by omega, by omega⟩, ⟨by omega, by omega⟩⟩ (fun c_30_2 => ?_) (fun c_30_2 => ?_)
    · exact (by exfalso; omega)
    · refine pg_go 7 (L := [0 ≤ j ∧ j < (144 : Int)]) (st' := (22, [(0, .inr (.inr 13)), (1, .inl (j + 1))], [], pg_up g 14 j.toNat (-1))) rfl ⟨by omega, by omega⟩ ?_
      refine ih _ _ (by omega) (by omega) (pg_fr_up hf (by decide) _ _) (fun q hq => ?_) hn3
      rw [pg_up_at]
      split
      · rfl
      · exact hI q (by omega)
theorem cq_J_fr {h g : pg_H} {s n : Int} {cs : List Nat} (hf : pg_fr cs h g) (h4 : 4 ∉ cs) (h5 : 5 ∉ cs) (h7 : 7 ∉ cs) (h8 : 8 ∉ cs) (h10 : 10 ∉ cs) (h11 : 11 ∉ cs) (h12 : 12 ∉ cs) (hJ : cq_J h s n) : cq_J g s n := by
  obtain ⟨⟨hB, hC, hS, hK, hV⟩, hk, hD⟩ := hJ
  have e10 := hf 10 h10
  have hD' := sy_D_fr (hf 7 h7) (fun j _ _ => by rw [e10]) (hf 11 h11) (hf 12 h12) hD
  have hk' : g 10 9 = 1 := by rw [e10]; exact hk
  refine ⟨⟨cm_B_fr hB hf h4 h5, cp_C_fr hC hf h7, cp_S_fr hS hf h7 h8, Or.inr ⟨hk', hD'⟩, ?_⟩, hk', hD'⟩
  rw [e10]
  rcases hV with hq | hq
  · exact Or.inl hq
  · exact Or.inr ⟨hk, sy_V_fr (hf 7 h7) (hf 8 h8) (fun j _ _ => by rw [e10]) hq.2⟩
theorem po_st_mono {b : Bool} {M : pg_M} {Q Q' : Option pg_V → pg_H → Prop} {st : pg_St} (hg : pg_Good b M Q st) (hq : ∀ r h', Q r h' → Q' r h') : pg_Good b M Q' st := by
  intro p l e R s m args below meth c K D ad A hX H locs ls hl hP hD hS T hT X
  obtain ⟨t, a1, o, b1, b2, ⟨⟨r, h', q1, q2, q3⟩, q4⟩, L, q5, q6⟩ := hg p l e R s m args below meth c K D ad A hX H locs ls hl hP hD hS T hT X
  exact ⟨t, a1, o, b1, b2, ⟨⟨r, h', hq r h' q1, q2, q3⟩, q4⟩, L, q5, q6⟩
def po_I (h : pg_H) (s n : Int) : Prop := h 13 4 = 0 ∨ (h 13 4 = 1 ∧ h 10 9 = 1 ∧ po_D h s n)
theorem po_study {h : pg_H} {s n : Int} (hQ : cq_I h s n) (hO : po_I h s n) : pg_Sem true pm_O_study [.inr (.inr 13)] h (fun r h' => r = none ∧ pg_fr [10, 11, 12, 13, 14] h h' ∧ cq_J h' s n ∧ po_D h' s n ∧ h' 13 4 = 1 ∧ sy_eq h h') := by
  have ho : h 13 4 = 0 ∨ h 13 4 = 1 := by unfold po_I at hO; omega
  refine pg_Sem_of pm_O_study_f rfl ?_
  refine pg_br 2 (L := []) (P := pg_inR (h 13 4)) (c := (h 13 4) = 0) (st1 := (8, [(0, .inr (.inr 13))], [], h)) (st2 := (7, [(0, .inr (.inr 13))], [], h)) rfl trivial ⟨by omega, by omega⟩ (fun c_4_1 => ?_) (fun c_4_1 => ?_)
  · refine pg_ca 2 (L := []) (Mc := pm_S_study) (as := [.inr (.inr 10)]) (h0 := h) (pc := 15) (lv := [(0, .inr (.inr 13))]) (rest := []) rfl trivial (cq_study hQ) ?_
    intro r_1 g e_1; obtain ⟨er_, ef_, hJ, hse⟩ := e_1; rw [er_]; obtain ⟨hQg, hk_, hD_⟩ := id hJ; obtain ⟨hBg, hCg, hSg, -, -⟩ := id hQg; obtain ⟨hs, ⟨hn1, hn2⟩, -⟩ := id hBg; have hR := sy_R_of hs hn2 hD_; have hnn := mt_nn hn1 hn2
    refine pg_go 5 (L := []) (st' := (22, [(0, .inr (.inr 13)), (1, .inl 0)], [], pg_up g 13 3 0)) rfl trivial ?_
    refine po_st_mono (po_st_1 (h := g) hBg hR (n * n).toNat _ _ (by omega) (by omega) (pg_fr_up (pg_fr_rf _ _) (by decide) _ _) (fun q hq => by omega) rfl) ?_
    rintro r h' ⟨e1, e2, e3, e4⟩
    exact ⟨e1, pg_fr_tr (pg_fr_tr (pg_fr_rf _ _) ef_ (by decide)) e2 (by decide), cq_J_fr e2 (by decide) (by decide) (by decide) (by decide) (by decide) (by decide) (by decide) hJ, e4, e3, sy_eq_fr hse e2 (by decide) (by decide) (by decide)⟩
  · refine pg_re 0 (L := []) (r := none) (h0 := h) rfl trivial ?_
    rcases hO with hq | ⟨hq1, hq2, hq3⟩
    · omega
    · have hD : sy_D h s n := by
        rcases hQ.2.2.2.1 with hw | hw
        · omega
        · exact hw.2
      exact ⟨rfl, pg_fr_rf _ _, ⟨hQ, hq2, hD⟩, hq3, hq1, sy_eq_rf _⟩
theorem po_total {h : pg_H} {s n : Int} (hQ : cq_I h s n) (hO : po_I h s n) : pg_Sem true pm_O_total [.inr (.inr 13)] h (fun r h' => ∃ z : Int, r = some (.inl z) ∧ pg_fr [10, 11, 12, 13, 14] h h' ∧ cq_J h' s n ∧ po_D h' s n ∧ h' 13 4 = 1 ∧ sy_eq h h' ∧ z = pg_cn (fun j => po_F (po_Tn h' s n) j j = -1) (n * n).toNat) := by
  refine pg_Sem_of pm_O_total_f rfl ?_
  refine pg_ca 1 (L := []) (Mc := pm_O_study) (as := [.inr (.inr 13)]) (h0 := h) (pc := 4) (lv := [(0, .inr (.inr 13))]) (rest := []) rfl trivial (po_study hQ hO) ?_
  intro r_1 g e_1; obtain ⟨er_, ef_, hJ, hP_, hk_, hse⟩ := e_1; rw [er_]; obtain ⟨hBg, -⟩ := id hJ.1; obtain ⟨hs, ⟨hn1, hn2⟩, -⟩ := id hBg; have hnn := mt_nn hn1 hn2
  refine pg_re 2 (L := []) (r := some (.inl (g 13 3))) (h0 := g) rfl trivial ?_
  exact ⟨_, rfl, ef_, hJ, hP_, hk_, hse, hP_.2⟩
theorem po_least {h : pg_H} {s n : Int} (hQ : cq_I h s n) (hO : po_I h s n) {p : Int} (hp : 0 ≤ p ∧ p < n * n) : pg_Sem true pm_O_leastOf [.inr (.inr 13), .inl p] h (fun r h' => ∃ z : Int, r = some (.inl z) ∧ pg_fr [10, 11, 12, 13, 14] h h' ∧ cq_J h' s n ∧ po_D h' s n ∧ h' 13 4 = 1 ∧ sy_eq h h' ∧ z = po_F (po_Tn h' s n) (n * n).toNat p.toNat) := by
  refine pg_Sem_of pm_O_leastOf_f rfl ?_
  refine pg_ca 1 (L := []) (Mc := pm_O_study) (as := [.inr (.inr 13)]) (h0 := h) (pc := 4) (lv := [(0, .inr (.inr 13)), (1, .inl p)]) (rest := []) rfl trivial (po_study hQ hO) ?_
  intro r_1 g e_1; obtain ⟨er_, ef_, hJ, hP_, hk_, hse⟩ := e_1; rw [er_]; obtain ⟨hBg, -⟩ := id hJ.1; obtain ⟨hs, ⟨hn1, hn2⟩, -⟩ := id hBg; have hnn := mt_nn hn1 hn2
  refine pg_re 4 (L := [0 ≤ p ∧ p < (144 : Int)]) (r := some (.inl (g 14 p.toNat))) (h0 := g) rfl ⟨by omega, by omega⟩ ?_
  exact ⟨_, rfl, ef_, hJ, hP_, hk_, hse, hP_.1 _ (by omega)⟩
theorem po_size_l {h : pg_H} {s n : Int} (hB : cm_B h s n) (hb : ∀ q : Nat, (q : Int) < n * n → -1 ≤ h 14 q ∧ h 14 q ≤ 1000) {p : Int} (hp : 0 ≤ p ∧ p < n * n) : ∀ (d : Nat) (f j : Int) (hd : j + (d : Int) = n * n) (hj : 0 ≤ j) (hf : f = pg_cn (fun q => h 14 q = h 14 p.toNat) j.toNat), pg_Good true pm_O_sizeOf (fun r h' => r = some (.inl (pg_cn (fun q => h 14 q = h 14 p.toNat) (n * n).toNat)) ∧ h' = h) (8, [(0, .inr (.inr 13)), (1, .inl p), (2, .inl f), (3, .inl j)], [], h) := by
  intro d
  induction d with
  | zero =>
    intro f j hd hj hf
    obtain ⟨hs, ⟨hn1, hn2⟩, e1, e2, e3, e5⟩ := id hB
    have hr := mt_rd_or hs
    have hnn := mt_nn hn1 hn2
    refine pg_ca 3 (L := []) (Mc := pm_M_points) (as := [.inr (.inr 4)]) (h0 := h) (pc := 16) (lv := [(0, .inr (.inr 13)), (1, .inl p), (2, .inl f), (3, .inl j)]) (rest := [.inl j]) rfl trivial (cm_points hB) ?_
    intro r_1 h_1 e_1; rw [e_1.1, e_1.2]
    refine pg_br 0 (L := []) (P := pg_inR j ∧ pg_inR (n * n)) (c := (n * n) ≤ j) (st1 := (43, [(0, .inr (.inr 13)), (1, .inl p), (2, .inl f), (3, .inl j)], [], h)) (st2 := (19, [(0, .inr (.inr 13)), (1, .inl p), (2, .inl f), (3, .inl j)], [], h)) rfl trivial ⟨⟨by omega, by omega⟩, ⟨by omega, by omega⟩⟩ (fun c_16_1 => ?_) (fun c_16_1 => ?_)
    · refine pg_re 1 (L := []) (r := some (.inl f)) (h0 := h) rfl trivial ?_
      refine ⟨?_, rfl⟩
      rw [hf, show j = n * n by omega]
    · exact (by exfalso; omega)
  | succ d ih =>
    intro f j hd hj hf
    obtain ⟨hs, ⟨hn1, hn2⟩, e1, e2, e3, e5⟩ := id hB
    have hr := mt_rd_or hs
    have hnn := mt_nn hn1 hn2
    have b1 := hb j.toNat (by omega)
    have b2 := hb p.toNat (by omega)
    have ek : (j + 1).toNat = j.toNat + 1 := by omega
    refine pg_ca 3 (L := []) (Mc := pm_M_points) (as := [.inr (.inr 4)]) (h0 := h) (pc := 16) (lv := [(0, .inr (.inr 13)), (1, .inl p), (2, .inl f), (3, .inl j)]) (rest := [.inl j]) rfl trivial (cm_points hB) ?_
    intro r_1 h_1 e_1; rw [e_1.1, e_1.2]
    refine pg_br 0 (L := []) (P := pg_inR j ∧ pg_inR (n * n)) (c := (n * n) ≤ j) (st1 := (43, [(0, .inr (.inr 13)), (1, .inl p), (2, .inl f), (3, .inl j)], [], h)) (st2 := (19, [(0, .inr (.inr 13)), (1, .inl p), (2, .inl f), (3, .inl j)], [], h)) rfl trivial ⟨⟨by omega, by omega⟩, ⟨by omega, by omega⟩⟩ (fun c_16_2 => ?_) (fun c_16_2 => ?_)
    · exact (by exfalso; omega)
    · refine pg_br 8 (L := [0 ≤ j ∧ j < (144 : Int), 0 ≤ p ∧ p < (144 : Int)]) (P := pg_inR (h 14 j.toNat) ∧ pg_inR (h 14 p.toNat)) (c := ¬ (h 14 j.toNat) = (h 14 p.toNat)) (st1 := (37, [(0, .inr (.inr 13)), (1, .inl p), (2, .inl f), (3, .inl j)], [], h)) (st2 := (34, [(0, .inr (.inr 13)), (1, .inl p), (2, .inl f), (3, .inl j)], [], h)) rfl ⟨⟨by omega, by omega⟩, ⟨by omega, by omega⟩⟩ ⟨⟨by omega, by omega⟩, ⟨by omega, by omega⟩⟩ (fun c_31_3 => ?_) (fun c_31_3 => ?_)
      · refine pg_go 2 (L := []) (st' := (8, [(0, .inr (.inr 13)), (1, .inl p), (2, .inl f), (3, .inl (j + 1))], [], h)) rfl trivial ?_
        refine ih _ _ (by omega) (by omega) ?_
        rw [ek, hf]
        simp only [pg_cn]
        first | rw [pg_b_t (by omega)] | (rw [pg_b_f (by omega)]; omega)
      · refine pg_go 3 (L := []) (st' := (8, [(0, .inr (.inr 13)), (1, .inl p), (2, .inl (f + 1)), (3, .inl (j + 1))], [], h)) rfl trivial ?_
        refine ih _ _ (by omega) (by omega) ?_
        rw [ek, hf]
        simp only [pg_cn]
        first | rw [pg_b_t (by omega)] | (rw [pg_b_f (by omega)]; omega)
theorem po_size {h : pg_H} {s n : Int} (hQ : cq_I h s n) (hO : po_I h s n) {p : Int} (hp : 0 ≤ p ∧ p < n * n) : pg_Sem true pm_O_sizeOf [.inr (.inr 13), .inl p] h (fun r h' => ∃ z : Int, r = some (.inl z) ∧ pg_fr [10, 11, 12, 13, 14] h h' ∧ cq_J h' s n ∧ po_D h' s n ∧ h' 13 4 = 1 ∧ sy_eq h h' ∧ z = pg_cn (fun q => po_F (po_Tn h' s n) (n * n).toNat q = po_F (po_Tn h' s n) (n * n).toNat p.toNat) (n * n).toNat) := by
  refine pg_Sem_of pm_O_sizeOf_f rfl ?_
  refine pg_ca 1 (L := []) (Mc := pm_O_study) (as := [.inr (.inr 13)]) (h0 := h) (pc := 4) (lv := [(0, .inr (.inr 13)), (1, .inl p)]) (rest := []) rfl trivial (po_study hQ hO) ?_
  intro r_1 g e_1; obtain ⟨er_, ef_, hJ, hP_, hk_, hse⟩ := e_1; rw [er_]; obtain ⟨hBg, -⟩ := id hJ.1; obtain ⟨hs, ⟨hn1, hn2⟩, -⟩ := id hBg; have hnn := mt_nn hn1 hn2
  refine pg_go 4 (L := []) (st' := (8, [(0, .inr (.inr 13)), (1, .inl p), (2, .inl 0), (3, .inl 0)], [], g)) rfl trivial ?_
  refine po_st_mono (po_size_l hBg (fun q hq => ?_) hp (n * n).toNat _ _ (by omega) (by omega) rfl) ?_
  · rw [hP_.1 q hq]; have := po_F_bd (po_Tn g s n) (n * n).toNat q; omega
  · rintro r h' ⟨rfl, rfl⟩
    refine ⟨_, rfl, ef_, hJ, hP_, hk_, hse, ?_⟩
    refine pg_cn_congr (fun q hq => ?_)
    rw [hP_.1 q (by omega), hP_.1 p.toNat (by omega)]
