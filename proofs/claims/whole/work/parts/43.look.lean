/-! Signature: lookAt -/
noncomputable def sg_t (h : pg_H) (s : Int) (m : Nat) : Int := pg_cn (fun k => sy_F h s k ((m : Int) % h 15 5) ((m : Int) / h 15 5)) (mt_rd s).toNat
noncomputable def sg_m (h : pg_H) (s : Int) (m : Nat) : Int := pg_cn (fun k => sy_F h s (mt_rd s + k) ((m : Int) % h 15 5) ((m : Int) / h 15 5)) (mt_rd s).toNat
/-- edges so far, and the places reached -/
noncomputable def sg_E (h : pg_H) (s : Int) : Nat → Int × List Int
  | 0 => (0, [])
  | m + 1 => @ite _ (sg_m h s m ≠ 0 ∧ (m : Int) ∉ (sg_E h s m).2) (Classical.propDecidable _) ((sg_E h s m).1 + 1, bf (sg_S h s) (5185 - ((sg_E h s m).2 ++ [(m : Int)]).length) (((sg_E h s m).2 ++ [(m : Int)]).length - 1) ((sg_E h s m).2 ++ [(m : Int)])) (sg_E h s m)
noncomputable def sg_mx (h : pg_H) (s : Int) : Nat → Int
  | 0 => 1
  | m + 1 => if sg_mx h s m < sg_t h s m then sg_t h s m else sg_mx h s m
noncomputable def sg_cn (h : pg_H) (s r : Int) (m : Nat) : Int := pg_cn (fun j => sg_t h s j = r ∧ sg_m h s j = 0) m
noncomputable def sg_co (h : pg_H) (s r : Int) (m : Nat) : Int := pg_cn (fun j => sg_t h s j = r ∧ sg_m h s j ≠ 0) m
/-- the object, when the places below m have been looked at -/
def sg_Z (h g : pg_H) (s : Int) (m : Nat) : Prop := pg_fr [1, 2, 3, 15, 16, 17] h g ∧ (∀ j, j ≠ 7 → j ≠ 10 → g 15 j = h 15 j) ∧ rc_L g (sg_E h s m).2 ∧ g 15 7 = (sg_E h s m).1 ∧ g 15 10 = sg_mx h s m ∧ (∀ r : Nat, r < 7 → g 16 r = sg_cn h s r m ∧ g 17 r = sg_co h s r m) ∧ ∀ x ∈ (sg_E h s m).2, 0 ≤ x ∧ x < h 15 5 * h 15 6
theorem sg_mx_bd (h : pg_H) {s : Int} (hs : s = 0 ∨ s = 1) (m : Nat) : 1 ≤ sg_mx h s m ∧ sg_mx h s m ≤ 6 := by
  induction m with
  | zero => exact (by decide : (1 : Int) ≤ 1 ∧ (1 : Int) ≤ 6)
  | succ m ih =>
    have h1 := pg_cn_bd (fun k => sy_F h s k ((m : Int) % h 15 5) ((m : Int) / h 15 5)) (mt_rd s).toNat
    have h2 := mt_rd_or hs
    have h3 : sg_t h s m = pg_cn (fun k => sy_F h s k ((m : Int) % h 15 5) ((m : Int) / h 15 5)) (mt_rd s).toNat := rfl
    simp only [sg_mx]
    split <;> omega
theorem bf_in {P : Int → Prop} {S : Int → List Int} (hS : ∀ x, ∀ y ∈ S x, P y) : ∀ (F j : Nat) (L : List Int), (∀ x ∈ L, P x) → ∀ x ∈ bf S F j L, P x := by
  intro F
  induction F with
  | zero => intro j L h; exact h
  | succ F ih =>
    intro j L h
    simp only [bf]
    split
    · exact ih _ _ (bf_ads_in _ _ h (hS _))
    · exact h
theorem sy_F_fr {h g : pg_H} (h10 : ∀ j, j ≠ 8 → j ≠ 9 → g 10 j = h 10 j) (h11 : g 11 = h 11) (h12 : g 12 = h 12) (s k p q : Int) : sy_F g s k p q ↔ sy_F h s k p q := by
  unfold sy_F
  rw [h10 4 (by decide) (by decide), h10 5 (by decide) (by decide), h10 6 (by decide) (by decide), h11, h12]
theorem sg_E_bd (h : pg_H) (s : Int) (m : Nat) : 0 ≤ (sg_E h s m).1 ∧ (sg_E h s m).1 ≤ m := by
  induction m with
  | zero => exact ⟨Int.le_refl _, Int.le_refl _⟩
  | succ m ih =>
    simp only [sg_E]
    split
    · show 0 ≤ (sg_E h s m).1 + 1 ∧ (sg_E h s m).1 + 1 ≤ _
      omega
    · omega
theorem sg_E_no {h : pg_H} {s : Int} {m : Nat} (hz : ¬ (sg_m h s m ≠ 0 ∧ (m : Int) ∉ (sg_E h s m).2)) : sg_E h s (m + 1) = sg_E h s m := if_neg hz
theorem sg_E_yes {h : pg_H} {s : Int} {m : Nat} (hz : sg_m h s m ≠ 0 ∧ (m : Int) ∉ (sg_E h s m).2) : sg_E h s (m + 1) = ((sg_E h s m).1 + 1, bf (sg_S h s) (5185 - ((sg_E h s m).2 ++ [(m : Int)]).length) (((sg_E h s m).2 ++ [(m : Int)]).length - 1) ((sg_E h s m).2 ++ [(m : Int)])) := if_pos hz
theorem sg_cn_s (h : pg_H) (s r : Int) (m : Nat) : sg_cn h s r (m + 1) = sg_cn h s r m + pg_b (sg_t h s m = r ∧ sg_m h s m = 0) := rfl
theorem sg_co_s (h : pg_H) (s r : Int) (m : Nat) : sg_co h s r (m + 1) = sg_co h s r m + pg_b (sg_t h s m = r ∧ sg_m h s m ≠ 0) := rfl
theorem bf_add_old {L : List Int} {p : Int} (h : ¬ p ∉ L) : bf_add L p = L := if_pos (Classical.not_not.mp h)
theorem bf_add_new {L : List Int} {p : Int} (h : p ∉ L) : bf_add L p = L ++ [p] := if_neg h
set_option maxHeartbeats 8000000 in
theorem sg_look {h : pg_H} {s n : Int} (hB : cm_B h s n) (hR : sy_R h s) (hW : sg_W h) {g : pg_H} {mm : Nat} (hZ : sg_Z h g s mm) {p q : Int} (hp : 0 ≤ p ∧ p < h 15 5) (hq : 0 ≤ q ∧ q < h 15 6) (hm : (mm : Int) = q * h 15 5 + p) : pg_Sem true pm_G_lookAt [.inr (.inr 15), .inl p, .inl q] g (fun r h' => r = none ∧ sg_Z h h' s (mm + 1)) := by
  obtain ⟨hs, ⟨hn1, hn2⟩, e1, e2, e3, e5⟩ := id hB
  have hr := mt_rd_or hs
  obtain ⟨ra, rb, rc, rl, rk⟩ := id hR
  have w1 : 1 ≤ h 15 5 ∧ h 15 5 ≤ 72 := by rw [hW.1]; omega
  have w2 : 1 ≤ h 15 6 ∧ h 15 6 ≤ 72 := by rw [hW.2]; omega
  obtain ⟨hf, h15, hL, z7, z10, zc, zb⟩ := id hZ
  have hBg := cm_B_fr hB hf (by decide) (by decide)
  have hRg := sy_R_fr hf (by decide) (by decide) (by decide) hR
  have hWg : sg_W g := by unfold sg_W; rw [h15 5 (by decide) (by decide), h15 6 (by decide) (by decide), hf 10 (by decide)]; exact hW
  have eF := fun k p q => sy_F_fr (h := h) (g := g) (fun j _ _ => by rw [hf 10 (by decide)]) (hf 11 (by decide)) (hf 12 (by decide)) s k p q
  have g155 : g 15 5 = h 15 5 := h15 5 (by decide) (by decide)
  have hdm := mt_dm (n := h 15 5) (u := q) (v := p) w1.1 ⟨by omega, by omega⟩
  rw [← hm] at hdm
  have et : pg_cn (fun k => sy_F g s k p q) (mt_rd s).toNat = sg_t h s mm := by unfold sg_t; rw [hdm.1, hdm.2]; exact pg_cn_congr (fun k _ => eF _ _ _)
  have em : pg_cn (fun k => sy_F g s (mt_rd s + k) p q) (mt_rd s).toNat = sg_m h s mm := by unfold sg_m; rw [hdm.1, hdm.2]; exact pg_cn_congr (fun k _ => eF _ _ _)
  have tb : 0 ≤ sg_t h s mm ∧ sg_t h s mm ≤ 6 := by have := pg_cn_bd (fun k => sy_F g s k p q) (mt_rd s).toNat; omega
  have mb : 0 ≤ sg_m h s mm ∧ sg_m h s mm ≤ 6 := by have := pg_cn_bd (fun k => sy_F g s (mt_rd s + k) p q) (mt_rd s).toNat; omega
  have xb := sg_mx_bd h hs mm
  have hmb : (mm : Int) < h 15 5 * h 15 6 := by
    have h1 : q * h 15 5 ≤ (h 15 6 - 1) * h 15 5 := Int.mul_le_mul_of_nonneg_right (by omega) (by omega)
    rw [Int.sub_mul, Int.one_mul, Int.mul_comm (h 15 6)] at h1
    omega
  have hm5 : (mm : Int) < 5184 := by
    have h1 : h 15 5 * h 15 6 ≤ 72 * 72 := Int.mul_le_mul w1.2 w2.2 (by omega) (by decide)
    omega
  have hq15 : q * g 15 5 = q * h 15 5 := by rw [g155]
  have zt := zc (sg_t h s mm).toNat (by omega)
  have hcb1 := pg_cn_bd (fun j => sg_t h s j = ((sg_t h s mm).toNat : Int) ∧ sg_m h s j = 0) mm
  have hcb2 := pg_cn_bd (fun j => sg_t h s j = ((sg_t h s mm).toNat : Int) ∧ sg_m h s j ≠ 0) mm
  have eb : 0 ≤ (sg_E h s mm).1 ∧ (sg_E h s mm).1 ≤ mm := sg_E_bd h s mm
  refine pg_Sem_of pm_G_lookAt_f rfl ?_
  refine pg_ca 4 (L := []) (Mc := pm_S_turnsAt) (as := [.inr (.inr 10), .inl p, .inl q]) (h0 := g) (pc := 9) (lv := [(0, .inr (.inr 15)), (1, .inl p), (2, .inl q)]) (rest := []) rfl trivial (cs_turns hBg hRg (p := p) (q := q) ⟨by omega, by omega⟩ ⟨by omega, by omega⟩) ?_
  intro r_1 h_1 e_1; rw [et] at e_1; rw [e_1.1, e_1.2]
  refine pg_br 2 (L := []) (P := pg_inR (sg_t h s mm)) (c := (sg_t h s mm) < 0) (st1 := (20, [(0, .inr (.inr 15)), (1, .inl p), (2, .inl q), (3, .inl (sg_t h s mm))], [], g)) (st2 := (14, [(0, .inr (.inr 15)), (1, .inl p), (2, .inl q), (3, .inl (sg_t h s mm))], [], g)) rfl trivial ⟨by omega, by omega⟩ (fun c_11_1 => ?_) (fun c_11_1 => ?_)
  · refine pg_re 0 (L := []) (r := none) (h0 := g) rfl trivial ?_
    exfalso
    omega
  · refine pg_br 2 (L := []) (P := pg_inR (sg_t h s mm) ∧ pg_inR 6) (c := (sg_t h s mm) ≤ 6) (st1 := (21, [(0, .inr (.inr 15)), (1, .inl p), (2, .inl q), (3, .inl (sg_t h s mm))], [], g)) (st2 := (20, [(0, .inr (.inr 15)), (1, .inl p), (2, .inl q), (3, .inl (sg_t h s mm))], [], g)) rfl trivial ⟨⟨by omega, by omega⟩, ⟨by decide, by decide⟩⟩ (fun c_17_2 => ?_) (fun c_17_2 => ?_)
    · refine pg_ca 4 (L := []) (Mc := pm_J_max) (as := [.inl (g 15 10), .inl (sg_t h s mm)]) (h0 := g) (pc := 30) (lv := [(0, .inr (.inr 15)), (1, .inl p), (2, .inl q), (3, .inl (sg_t h s mm))]) (rest := [.inr (.inr 15)]) rfl trivial (cj_max g (g 15 10) (sg_t h s mm) ⟨by omega, by omega⟩ ⟨by omega, by omega⟩) ?_
      intro r_1 h_1 e_1; rw [e_1.1, e_1.2]
      have hmx : (if g 15 10 < sg_t h s mm then sg_t h s mm else g 15 10) = sg_mx h s (mm + 1) := by simp only [sg_mx]; rw [z10]
      refine pg_ca 5 (L := []) (Mc := pm_S_mirrorsAt) (as := [.inr (.inr 10), .inl p, .inl q]) (h0 := pg_up g 15 10 (if (g 15 10) < (sg_t h s mm) then (sg_t h s mm) else (g 15 10))) (pc := 42) (lv := [(0, .inr (.inr 15)), (1, .inl p), (2, .inl q), (3, .inl (sg_t h s mm))]) (rest := []) rfl trivial (cs_mirr (h := pg_up g 15 10 (if (g 15 10) < (sg_t h s mm) then (sg_t h s mm) else (g 15 10))) (cm_B_up hBg (by decide) (by decide)) (by exact hRg) (p := p) (q := q) ⟨by omega, by omega⟩ ⟨by omega, by omega⟩) ?_
      intro r_1 h_1 e_1; have e_2 : r_1 = some (.inl (pg_cn (fun k => sy_F g s (mt_rd s + k) p q) (mt_rd s).toNat)) := e_1.1; rw [em] at e_2; rw [e_2, e_1.2]
      refine pg_br 0 (L := []) (P := pg_inR (sg_m h s mm)) (c := ¬ (sg_m h s mm) = 0) (st1 := (56, [(0, .inr (.inr 15)), (1, .inl p), (2, .inl q), (3, .inl (sg_t h s mm))], [], pg_up g 15 10 (if (g 15 10) < (sg_t h s mm) then (sg_t h s mm) else (g 15 10)))) (st2 := (45, [(0, .inr (.inr 15)), (1, .inl p), (2, .inl q), (3, .inl (sg_t h s mm))], [], pg_up g 15 10 (if (g 15 10) < (sg_t h s mm) then (sg_t h s mm) else (g 15 10)))) rfl trivial ⟨by omega, by omega⟩ (fun c_42_3 => ?_) (fun c_42_3 => ?_)
      · refine pg_ca 16 (L := [0 ≤ (sg_t h s mm) ∧ (sg_t h s mm) < (7 : Int), 0 ≤ (sg_t h s mm) ∧ (sg_t h s mm) < (7 : Int)]) (Mc := pm_R_add) (as := [.inr (.inr 1), .inl ((q * (g 15 5)) + p)]) (h0 := pg_up (pg_up g 15 10 (if (g 15 10) < (sg_t h s mm) then (sg_t h s mm) else (g 15 10))) 17 ((sg_t h s mm).toNat) ((g 17 ((sg_t h s mm).toNat)) + 1)) (pc := 81) (lv := [(0, .inr (.inr 15)), (1, .inl p), (2, .inl q), (3, .inl (sg_t h s mm))]) (rest := []) rfl ⟨⟨by omega, by omega⟩, ⟨by omega, by omega⟩⟩ (rl_add (L := (sg_E h s mm).2) (h := pg_up (pg_up g 15 10 (if (g 15 10) < (sg_t h s mm) then (sg_t h s mm) else (g 15 10))) 17 ((sg_t h s mm).toNat) ((g 17 ((sg_t h s mm).toNat)) + 1)) (rc_L_fr (pg_fr_up (pg_fr_up (pg_fr_rf [15, 17] g) (by decide) _ _) (by decide) _ _) (by decide) (by decide) (by decide) hL) ((q * (g 15 5)) + p) (by omega)) ?_
        intro r_1 g2 e_1; obtain ⟨er_, eL_, ef_⟩ := e_1; rw [er_]
        have hmm : q * g 15 5 + p = (mm : Int) := by omega
        rw [hmm] at eL_ ⊢
        have hbo := pg_b_or ((mm : Int) ∉ (sg_E h s mm).2)
        have e157 : g2 15 7 = g 15 7 := by rw [ef_ 15 (by decide)]; rfl
        refine pg_br 0 (L := []) (P := pg_inR (pg_b ((mm : Int) ∉ (sg_E h s mm).2))) (c := (pg_b ((mm : Int) ∉ (sg_E h s mm).2)) = 0) (st1 := (98, [(0, .inr (.inr 15)), (1, .inl p), (2, .inl q), (3, .inl (sg_t h s mm))], [], g2)) (st2 := (84, [(0, .inr (.inr 15)), (1, .inl p), (2, .inl q), (3, .inl (sg_t h s mm))], [], g2)) rfl trivial ⟨by omega, by omega⟩ (fun c_81_4 => ?_) (fun c_81_4 => ?_)
        · refine pg_re 0 (L := []) (r := none) (h0 := g2) rfl trivial ?_
          have hin : ¬ ((mm : Int) ∉ (sg_E h s mm).2) := by
            rcases hbo with hq2 | hq2
            · omega
            · exact hq2.1
          rw [bf_add_old hin] at eL_
          have e17 : g2 17 = (pg_up (pg_up g 15 10 (if g 15 10 < sg_t h s mm then sg_t h s mm else g 15 10)) 17 (sg_t h s mm).toNat (g 17 (sg_t h s mm).toNat + 1)) 17 := ef_ 17 (by decide)
          have e16 : g2 16 = g 16 := ef_ 16 (by decide)
          refine ⟨rfl, pg_fr_tr (pg_fr_up (pg_fr_up hf (by decide) _ _) (by decide) _ _) ef_ (by decide), fun j h1 h2 => ?_, ?_, ?_, ?_, fun r hr => ?_, ?_⟩
          · rw [ef_ 15 (by decide)]; show pg_up g 15 10 _ 15 j = _; rw [pg_up_at, if_neg h2]; exact h15 j h1 h2
          · rw [sg_E_no (fun hz => hin hz.2)]; exact eL_
          · rw [sg_E_no (fun hz => hin hz.2), e157]; exact z7
          · rw [ef_ 15 (by decide)]; exact hmx
          · rw [e17, e16, pg_up_at, pg_up_ne _ _ _ (by decide), sg_cn_s, sg_co_s, pg_b_f (P := sg_t h s mm = r ∧ sg_m h s mm = 0) (by omega), Int.add_zero]
            refine ⟨(zc r hr).1, ?_⟩
            by_cases hc : r = (sg_t h s mm).toNat
            · rw [if_pos hc, pg_b_t (by omega), hc, zt.2]
            · rw [if_neg hc, pg_b_f (by omega), Int.add_zero]; exact (zc r hr).2
          · rw [sg_E_no (fun hz => hin hz.2)]; exact zb
        · have hin : (mm : Int) ∉ (sg_E h s mm).2 := by
            rcases hbo with hq2 | hq2
            · exact hq2.1
            · omega
          rw [bf_add_new hin] at eL_
          have hfg2 := pg_fr_tr (pg_fr_up (pg_fr_up hf (cs := [1, 2, 3, 15, 16, 17]) (q := 15) (by decide) 10 (if g 15 10 < sg_t h s mm then sg_t h s mm else g 15 10)) (q := 17) (by decide) (sg_t h s mm).toNat (g 17 (sg_t h s mm).toNat + 1)) ef_ (by decide)
          have hB3 : cm_B (pg_up g2 15 7 (g2 15 7 + 1)) s n := cm_B_up (cm_B_fr hB hfg2 (by decide) (by decide)) (by decide) (by decide)
          have hR3 : sy_R (pg_up g2 15 7 (g2 15 7 + 1)) s := by
            have := sy_R_fr hfg2 (by decide) (by decide) (by decide) hR
            exact this
          have e2j : ∀ j, j ≠ 7 → j ≠ 10 → pg_up g2 15 7 (g2 15 7 + 1) 15 j = h 15 j := fun j h1 h2 => by rw [pg_up_at, if_neg h1, ef_ 15 (by decide)]; show pg_up g 15 10 _ 15 j = _; rw [pg_up_at, if_neg h2]; exact h15 j h1 h2
          have e210 : pg_up g2 15 7 (g2 15 7 + 1) 10 = h 10 := by show g2 10 = h 10; rw [hfg2 10 (by decide)]
          have hW3 : sg_W (pg_up g2 15 7 (g2 15 7 + 1)) := by unfold sg_W; rw [e2j 5 (by decide) (by decide), e2j 6 (by decide) (by decide), e210]; exact hW
          have hL3 : rc_L (pg_up g2 15 7 (g2 15 7 + 1)) ((sg_E h s mm).2 ++ [(mm : Int)]) := rc_L_fr (pg_fr_up (pg_fr_rf [15] g2) (by decide) _ _) (by decide) (by decide) (by decide) eL_
          have hb3h : ∀ x ∈ (sg_E h s mm).2 ++ [(mm : Int)], 0 ≤ x ∧ x < h 15 5 * h 15 6 := fun x hx => by
            rcases List.mem_append.mp hx with hx | hx
            · exact zb x hx
            · rw [List.mem_singleton.mp hx]; exact ⟨by omega, hmb⟩
          have hb3 : ∀ x ∈ (sg_E h s mm).2 ++ [(mm : Int)], 0 ≤ x ∧ x < pg_up g2 15 7 (g2 15 7 + 1) 15 5 * pg_up g2 15 7 (g2 15 7 + 1) 15 6 := by rw [e2j 5 (by decide) (by decide), e2j 6 (by decide) (by decide)]; exact hb3h
          have eSS : sg_S (pg_up g2 15 7 (g2 15 7 + 1)) s = sg_S h s := sg_S_fr (fun j _ _ => by rw [e210]) (by show g2 11 = h 11; rw [hfg2 11 (by decide)]) (by show g2 12 = h 12; rw [hfg2 12 (by decide)]) (e2j 5 (by decide) (by decide)) (e2j 6 (by decide) (by decide)) s
          refine pg_ca 7 (L := []) (Mc := pm_G_followEdge) (as := [.inr (.inr 15)]) (h0 := pg_up g2 15 7 ((g2 15 7) + 1)) (pc := 98) (lv := [(0, .inr (.inr 15)), (1, .inl p), (2, .inl q), (3, .inl (sg_t h s mm))]) (rest := []) rfl trivial (sg_fe (h := pg_up g2 15 7 ((g2 15 7) + 1)) (L := (sg_E h s mm).2 ++ [(mm : Int)]) hB3 hR3 hW3 hL3 (by simp) hb3) ?_
          intro r_1 g3 e_1; obtain ⟨er_, ef3_, eL3_⟩ := e_1; rw [er_]
          refine pg_re 0 (L := []) (r := none) (h0 := g3) rfl trivial ?_
          have e17 : g3 17 = (pg_up (pg_up g 15 10 (if g 15 10 < sg_t h s mm then sg_t h s mm else g 15 10)) 17 (sg_t h s mm).toNat (g 17 (sg_t h s mm).toNat + 1)) 17 := by rw [ef3_ 17 (by decide)]; exact ef_ 17 (by decide)
          have e16 : g3 16 = g 16 := by rw [ef3_ 16 (by decide)]; exact ef_ 16 (by decide)
          have e15 : ∀ j, j ≠ 7 → g3 15 j = pg_up g 15 10 (if g 15 10 < sg_t h s mm then sg_t h s mm else g 15 10) 15 j := fun j hj => by rw [ef3_ 15 (by decide), pg_up_at, if_neg hj, ef_ 15 (by decide)]; rfl
          refine ⟨rfl, pg_fr_tr (pg_fr_up (pg_fr_tr (pg_fr_up (pg_fr_up hf (by decide) _ _) (by decide) _ _) ef_ (by decide)) (by decide) _ _) ef3_ (by decide), fun j h1 h2 => ?_, ?_, ?_, ?_, fun r hr => ?_, ?_⟩
          · rw [e15 j h1, pg_up_at, if_neg h2]; exact h15 j h1 h2
          · rw [sg_E_yes ⟨by omega, hin⟩]; rw [eSS] at eL3_; exact eL3_
          · rw [sg_E_yes ⟨by omega, hin⟩, ef3_ 15 (by decide), pg_up_at, if_pos rfl, e157, z7]
          · rw [e15 10 (by decide), pg_up_at, if_pos rfl]; exact hmx
          · rw [e17, e16, pg_up_at, pg_up_ne _ _ _ (by decide), sg_cn_s, sg_co_s, pg_b_f (P := sg_t h s mm = r ∧ sg_m h s mm = 0) (by omega), Int.add_zero]
            refine ⟨(zc r hr).1, ?_⟩
            by_cases hc : r = (sg_t h s mm).toNat
            · rw [if_pos hc, pg_b_t (by omega), hc, zt.2]
            · rw [if_neg hc, pg_b_f (by omega), Int.add_zero]; exact (zc r hr).2
          · rw [sg_E_yes ⟨by omega, hin⟩]; exact bf_in (sg_S_bd hR hW) _ _ _ hb3h
      · refine pg_re 8 (L := [0 ≤ (sg_t h s mm) ∧ (sg_t h s mm) < (7 : Int), 0 ≤ (sg_t h s mm) ∧ (sg_t h s mm) < (7 : Int)]) (r := none) (h0 := pg_up (pg_up g 15 10 (if (g 15 10) < (sg_t h s mm) then (sg_t h s mm) else (g 15 10))) 16 ((sg_t h s mm).toNat) ((g 16 ((sg_t h s mm).toNat)) + 1)) rfl ⟨⟨by omega, by omega⟩, ⟨by omega, by omega⟩⟩ ?_
        refine ⟨rfl, pg_fr_up (pg_fr_up hf (by decide) _ _) (by decide) _ _, fun j h1 h2 => ?_, ?_, ?_, ?_, fun r hr => ?_, ?_⟩
        · show pg_up g 15 10 _ 15 j = _; rw [pg_up_at, if_neg h2]; exact h15 j h1 h2
        · rw [sg_E_no (fun hz => hz.1 (by omega))]; exact rc_L_fr (pg_fr_up (pg_fr_up (pg_fr_rf [15, 16] g) (by decide) _ _) (by decide) _ _) (by decide) (by decide) (by decide) hL
        · rw [sg_E_no (fun hz => hz.1 (by omega))]; exact z7
        · exact hmx
        · rw [pg_up_at, pg_up_ne _ _ _ (by decide), sg_cn_s, sg_co_s, pg_b_f (P := sg_t h s mm = r ∧ sg_m h s mm ≠ 0) (by omega), Int.add_zero]
          refine ⟨?_, (zc r hr).2⟩
          by_cases hc : r = (sg_t h s mm).toNat
          · rw [if_pos hc, pg_b_t (by omega), hc, zt.1]
          · rw [if_neg hc, pg_b_f (by omega), Int.add_zero]; exact (zc r hr).1
        · rw [sg_E_no (fun hz => hz.1 (by omega))]; exact zb
    · refine pg_re 0 (L := []) (r := none) (h0 := g) rfl trivial ?_
      exfalso
      omega
