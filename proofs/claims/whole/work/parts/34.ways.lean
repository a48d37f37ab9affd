/-! Symmetries: all changes, ways, numbered -/
def pg_sm (f : Nat → Int) : Nat → Int
  | 0 => 0
  | m + 1 => pg_sm f m + f m
theorem pg_sm_bd {f : Nat → Int} {M : Int} (m : Nat) (h : ∀ j, j < m → 0 ≤ f j ∧ f j ≤ M) : 0 ≤ pg_sm f m ∧ pg_sm f m ≤ M * m := by
  induction m with
  | zero => simp [pg_sm]
  | succ m ih =>
    have h1 := ih (fun j hj => h j (by omega))
    have h2 := h m (by omega)
    simp only [pg_sm]
    rw [show ((m + 1 : Nat) : Int) = (m : Int) + 1 by omega, Int.mul_add]
    omega
theorem sy_Cm_fr {h g : pg_H} (hf : pg_fr [9] h g) (s n k an : Int) : sy_Cm g s n k an = sy_Cm h s n k an := by
  funext m
  unfold sy_Cm
  rw [hf 7 (by decide), hf 8 (by decide), hf 10 (by decide)]
theorem sy_R_fr {h g : pg_H} {s : Int} {cs : List Nat} (hf : pg_fr cs h g) (h10 : 10 ∉ cs) (h11 : 11 ∉ cs) (h12 : 12 ∉ cs) (hR : sy_R h s) : sy_R g s := by
  unfold sy_R at *
  rw [hf 10 h10, hf 11 h11, hf 12 h12]
  exact hR
/-- the number of changes, as the class counts it -/
def sy_V (h : pg_H) (s n v : Int) : Prop := ∃ an : Int, (0 ≤ an ∧ an < n * n) ∧ v = pg_sm (fun k => pg_cn (sy_Cm h s n k an) (h 10 4 * h 10 6).toNat) (2 * mt_rd s).toNat * sy_sh h n
theorem sy_V_bd {h : pg_H} {s n v : Int} (hs : s = 0 ∨ s = 1) (hn : 1 ≤ n ∧ n ≤ 12) (hR : sy_R h s) (hV : sy_V h s n v) : 0 ≤ v ∧ v ≤ 1000000 := by
  obtain ⟨an, -, rfl⟩ := hV
  have h1 := pg_prod_bd hR.1 hR.2.2.1
  have h2 := sy_sh_bd hR hn
  have h3 := pg_sm_bd (f := fun k => pg_cn (sy_Cm h s n k an) (h 10 4 * h 10 6).toNat) (M := 144) (2 * mt_rd s).toNat (fun j _ => by
    have := pg_cn_bd (sy_Cm h s n j an) (h 10 4 * h 10 6).toNat
    omega)
  have h4 : (144 : Int) * ((2 * mt_rd s).toNat : Nat) ≤ 1728 := by
    rcases mt_rd_or hs with ⟨-, e⟩ | ⟨-, e⟩ <;> rw [e] <;> decide
  generalize pg_sm (fun k => pg_cn (sy_Cm h s n k an) (h 10 4 * h 10 6).toNat) (2 * mt_rd s).toNat = x at *
  generalize sy_sh h n = y at *
  refine ⟨Int.mul_nonneg h3.1 h2.1, ?_⟩
  have h5 : x * y ≤ 1728 * 144 := Int.mul_le_mul (by omega) (by omega) (by omega) (by omega)
  omega
theorem cs_ac_l {h : pg_H} {s n : Int} (hB : cm_B h s n) (hR : sy_R h s) (hC : cp_C h) (hS : cp_S h n) {an : Int} (han : 0 ≤ an ∧ an < n * n) : ∀ (d : Nat) (g : pg_H) (f k : Int) (hd : k + (d : Int) = 2 * mt_rd s) (hk : 0 ≤ k) (hf : pg_fr [9] h g) (hI : f = pg_sm (fun k => pg_cn (sy_Cm h s n k an) (h 10 4 * h 10 6).toNat) k.toNat), pg_Good true pm_S_allChanges (fun r h' => ∃ v : Int, sy_V h s n v ∧ r = some (.inl v) ∧ pg_fr [9, 10] h h' ∧ h' 10 = (fun j => if j = 8 then v else h 10 j)) (25, [(0, .inr (.inr 10)), (1, .inl an), (2, .inl f), (3, .inl k)], [], g) := by
  intro d
  induction d with
  | zero =>
    intro g f k hd hk hf hI
    obtain ⟨hs, ⟨hn1, hn2⟩, e1, e2, e3, e5⟩ := id hB
    have hr := mt_rd_or hs
    obtain ⟨ra, rb, rc, rl, rk⟩ := id hR
    have hBg := cm_B_fr hB hf (by decide) (by decide)
    have hCg := cp_C_fr hC hf (by decide)
    have hSg := cp_S_fr hS hf (by decide) (by decide)
    have hRg := sy_R_fr hf (by decide) (by decide) (by decide) hR
    have g10 : g 10 = h 10 := hf 10 (by decide)
    have ecm := sy_Cm_fr hf s n
    have gsh : sy_sh g n = sy_sh h n := by unfold sy_sh; rw [g10]
    refine pg_ca 3 (L := []) (Mc := pm_M_linears) (as := [.inr (.inr 4)]) (h0 := g) (pc := 33) (lv := [(0, .inr (.inr 10)), (1, .inl an), (2, .inl f), (3, .inl k)]) (rest := [.inl k]) rfl trivial (cm_linears hBg) ?_
    intro r_1 h_1 e_1; rw [e_1.1, e_1.2]
    refine pg_br 0 (L := []) (P := pg_inR k ∧ pg_inR (2 * mt_rd s)) (c := (2 * mt_rd s) ≤ k) (st1 := (51, [(0, .inr (.inr 10)), (1, .inl an), (2, .inl f), (3, .inl k)], [], g)) (st2 := (36, [(0, .inr (.inr 10)), (1, .inl an), (2, .inl f), (3, .inl k)], [], g)) rfl trivial ⟨⟨by omega, by omega⟩, ⟨by omega, by omega⟩⟩ (fun c_33_1 => ?_) (fun c_33_1 => ?_)
    · refine pg_ca 3 (L := []) (Mc := pm_S_shifts) (as := [.inr (.inr 10)]) (h0 := g) (pc := 57) (lv := [(0, .inr (.inr 10)), (1, .inl an), (2, .inl f), (3, .inl k)]) (rest := [.inl f, .inr (.inr 10)]) rfl trivial (cs_shifts hBg hRg) ?_
      intro r_1 h_1 e_1; rw [gsh] at e_1; rw [e_1.1, e_1.2]
      refine pg_re 4 (L := []) (r := some (.inl (f * (sy_sh h n)))) (h0 := pg_up g 10 8 (f * (sy_sh h n))) rfl trivial ?_
      refine ⟨_, ⟨an, han, rfl⟩, ?_, pg_fr_up (pg_fr_tr (pg_fr_rf _ _) hf (by decide)) (by decide) _ _, ?_⟩
      · rw [hI, show k = 2 * mt_rd s by omega]
      · funext j; rw [pg_up_at, g10, hI, show k = 2 * mt_rd s by omega]
    · exact (by exfalso; omega)
  | succ d ih =>
    intro g f k hd hk hf hI
    obtain ⟨hs, ⟨hn1, hn2⟩, e1, e2, e3, e5⟩ := id hB
    have hr := mt_rd_or hs
    obtain ⟨ra, rb, rc, rl, rk⟩ := id hR
    have hBg := cm_B_fr hB hf (by decide) (by decide)
    have hCg := cp_C_fr hC hf (by decide)
    have hSg := cp_S_fr hS hf (by decide) (by decide)
    have hRg := sy_R_fr hf (by decide) (by decide) (by decide) hR
    have g10 : g 10 = h 10 := hf 10 (by decide)
    have ecm := sy_Cm_fr hf s n
    have gsh : sy_sh g n = sy_sh h n := by unfold sy_sh; rw [g10]
    have ek : (k + 1).toNat = k.toNat + 1 := by omega
    have ek2 : ((k.toNat : Nat) : Int) = k := by omega
    refine pg_ca 3 (L := []) (Mc := pm_M_linears) (as := [.inr (.inr 4)]) (h0 := g) (pc := 33) (lv := [(0, .inr (.inr 10)), (1, .inl an), (2, .inl f), (3, .inl k)]) (rest := [.inl k]) rfl trivial (cm_linears hBg) ?_
    intro r_1 h_1 e_1; rw [e_1.1, e_1.2]
    refine pg_br 0 (L := []) (P := pg_inR k ∧ pg_inR (2 * mt_rd s)) (c := (2 * mt_rd s) ≤ k) (st1 := (51, [(0, .inr (.inr 10)), (1, .inl an), (2, .inl f), (3, .inl k)], [], g)) (st2 := (36, [(0, .inr (.inr 10)), (1, .inl an), (2, .inl f), (3, .inl k)], [], g)) rfl trivial ⟨⟨by omega, by omega⟩, ⟨by omega, by omega⟩⟩ (fun c_33_2 => ?_) (fun c_33_2 => ?_)
    · exact (by exfalso; omega)
    · refine pg_ca 4 (L := []) (Mc := pm_S_changesOf) (as := [.inr (.inr 10), .inl k, .inl an]) (h0 := g) (pc := 43) (lv := [(0, .inr (.inr 10)), (1, .inl an), (2, .inl f), (3, .inl k)]) (rest := [.inl f]) rfl trivial (cs_co hBg hRg hCg hSg (k := k) (an := an) ⟨by omega, by omega⟩ han) ?_
      intro r_1 g2 e_1; obtain ⟨er_, ef_⟩ := e_1; rw [ecm, g10] at er_; rw [er_]; have hf2 := pg_fr_tr hf ef_ (by decide)
      refine pg_go 4 (L := []) (st' := (25, [(0, .inr (.inr 10)), (1, .inl an), (2, .inl (f + (pg_cn (sy_Cm h s n k an) (h 10 4 * h 10 6).toNat))), (3, .inl (k + 1))], [], g2)) rfl trivial ?_
      refine ih g2 _ _ (by omega) (by omega) hf2 ?_
      rw [ek, hI]
      simp only [pg_sm, ek2]
theorem cs_ac {h : pg_H} {s n : Int} (hB : cm_B h s n) (hR : sy_R h s) (hC : cp_C h) (hS : cp_S h n) (hV : h 10 8 = -1 ∨ sy_V h s n (h 10 8)) : pg_Sem true pm_S_allChanges [.inr (.inr 10)] h (fun r h' => ∃ v : Int, sy_V h s n v ∧ r = some (.inl v) ∧ pg_fr [9, 10] h h' ∧ h' 10 = (fun j => if j = 8 then v else h 10 j)) := by
  obtain ⟨hs, ⟨hn1, hn2⟩, e1, e2, e3, e5⟩ := id hB
  have hr := mt_rd_or hs
  obtain ⟨ra, rb, rc, rl, rk⟩ := id hR
  have hSb := cp_S_bd hS (mt_nn hn1 hn2).2.1
  have hvb : -1 ≤ h 10 8 ∧ h 10 8 ≤ 1000000 := by
    rcases hV with hq | hq
    · omega
    · have := sy_V_bd hs ⟨hn1, hn2⟩ hR hq; omega
  refine pg_Sem_of pm_S_allChanges_f rfl ?_
  refine pg_br 3 (L := []) (P := pg_inR (h 10 8) ∧ pg_inR (-1)) (c := (h 10 8) = (-1)) (st1 := (13, [(0, .inr (.inr 10))], [], h)) (st2 := (8, [(0, .inr (.inr 10))], [], h)) rfl trivial ⟨⟨by omega, by omega⟩, ⟨by decide, by decide⟩⟩ (fun c_5_1 => ?_) (fun c_5_1 => ?_)
  · refine pg_ca 2 (L := []) (Mc := pm_C_rarestPoint) (as := [.inr (.inr 6)]) (h0 := h) (pc := 20) (lv := [(0, .inr (.inr 10))]) (rest := []) rfl trivial (cp_rare (h := h) hB hC hSb) ?_
    intro r_1 h_1 e_1; obtain ⟨an_, han_, er_, eh_⟩ := e_1; rw [er_, eh_]
    refine pg_go 5 (L := []) (st' := (25, [(0, .inr (.inr 10)), (1, .inl an_), (2, .inl 0), (3, .inl 0)], [], h)) rfl trivial ?_
    exact cs_ac_l hB hR hC hS han_ (2 * mt_rd s).toNat h _ _ (by omega) (by omega) (pg_fr_rf _ _) rfl
  · refine pg_re 2 (L := []) (r := some (.inl (h 10 8))) (h0 := h) rfl trivial ?_
    rcases hV with hq | hq
    · omega
    · refine ⟨_, hq, rfl, pg_fr_rf _ _, ?_⟩
      funext j
      split
      · rename_i e; rw [e]
      · rfl
/-- picture and symmetries hold together -/
def cq_I (h : pg_H) (s n : Int) : Prop := cm_B h s n ∧ cp_C h ∧ cp_S h n ∧ (h 10 9 = 0 ∨ (h 10 9 = 1 ∧ sy_D h s n)) ∧ (h 10 8 = -1 ∨ (h 10 9 = 1 ∧ sy_V h s n (h 10 8)))
theorem sy_D_fr {h g : pg_H} {s n : Int} (h7 : g 7 = h 7) (h10 : ∀ j, j ≠ 8 → j ≠ 9 → g 10 j = h 10 j) (h11 : g 11 = h 11) (h12 : g 12 = h 12) (hD : sy_D h s n) : sy_D g s n := by
  unfold sy_D sy_K at *
  rw [h7, h10 4 (by decide) (by decide), h10 5 (by decide) (by decide), h10 6 (by decide) (by decide), h10 7 (by decide) (by decide), h11, h12]
  exact hD
theorem sy_V_fr {h g : pg_H} {s n v : Int} (h7 : g 7 = h 7) (h8 : g 8 = h 8) (h10 : ∀ j, j ≠ 8 → j ≠ 9 → g 10 j = h 10 j) (hV : sy_V h s n v) : sy_V g s n v := by
  unfold sy_V sy_Cm sy_sh at *
  rw [h7, h8, h10 4 (by decide) (by decide), h10 6 (by decide) (by decide)]
  exact hV
/-- what is known of the symmetries stays -/
def sy_eq (h g : pg_H) : Prop := h 10 9 = 1 → (∀ j, j ≠ 8 → g 10 j = h 10 j) ∧ g 11 = h 11 ∧ g 12 = h 12
theorem sy_eq_rf (h : pg_H) : sy_eq h h := fun _ => ⟨fun _ _ => rfl, rfl, rfl⟩
theorem sy_eq_fr {h g k : pg_H} {cs : List Nat} (he : sy_eq h g) (hf : pg_fr cs g k) (h10 : 10 ∉ cs) (h11 : 11 ∉ cs) (h12 : 12 ∉ cs) : sy_eq h k := fun h1 => by
  obtain ⟨a, b, c⟩ := he h1
  rw [hf 10 h10, hf 11 h11, hf 12 h12]
  exact ⟨a, b, c⟩
/-- behind study -/
def cq_J (h : pg_H) (s n : Int) : Prop := cq_I h s n ∧ h 10 9 = 1 ∧ sy_D h s n
theorem cq_study {h : pg_H} {s n : Int} (hQ : cq_I h s n) : pg_Sem true pm_S_study [.inr (.inr 10)] h (fun r h' => r = none ∧ pg_fr [10, 11, 12] h h' ∧ cq_J h' s n ∧ sy_eq h h') := by
  obtain ⟨hB, hC, hS, hK, hV⟩ := hQ
  by_cases hk : h 10 9 = 1
  · have hD : sy_D h s n := by
      rcases hK with hq | hq
      · omega
      · exact hq.2
    refine pg_Sem_of pm_S_study_f rfl ?_
    refine pg_br 2 (L := []) (P := pg_inR (h 10 9)) (c := (h 10 9) = 0) (st1 := (8, [(0, .inr (.inr 10))], [], h)) (st2 := (7, [(0, .inr (.inr 10))], [], h)) rfl trivial ⟨by omega, by omega⟩ (fun c => ?_) (fun c => ?_)
    · omega
    · exact pg_re 0 (L := []) (r := none) (h0 := h) rfl trivial ⟨rfl, pg_fr_rf _ _, ⟨⟨hB, hC, hS, hK, hV⟩, hk, hD⟩, sy_eq_rf _⟩
  · refine pg_Sem_mono (cs_study hB hC hS hK) ?_
    rintro r h' ⟨e1, e2, e3, e4, e5⟩
    refine ⟨e1, e2, ⟨⟨cm_B_fr hB e2 (by decide) (by decide), cp_C_fr hC e2 (by decide), cp_S_fr hS e2 (by decide) (by decide), Or.inr ⟨e3, e5⟩, Or.inl ?_⟩, e3, e5⟩, fun hz => absurd hz hk⟩
    rw [e4]
    rcases hV with hq | hq
    · exact hq
    · exact absurd hq.1 hk
theorem cq_ac {h : pg_H} {s n : Int} (hJ : cq_J h s n) : pg_Sem true pm_S_allChanges [.inr (.inr 10)] h (fun r h' => ∃ v : Int, sy_V h s n v ∧ r = some (.inl v) ∧ pg_fr [9, 10] h h' ∧ (∀ j, j ≠ 8 → h' 10 j = h 10 j) ∧ cq_J h' s n) := by
  obtain ⟨⟨hB, hC, hS, hK, hV⟩, hk, hD⟩ := id hJ
  obtain ⟨hs, hn, -⟩ := id hB
  have hR := sy_R_of hs hn.2 hD
  refine pg_Sem_mono (cs_ac hB hR hC hS (by
    rcases hV with hq | hq
    · exact Or.inl hq
    · exact Or.inr hq.2)) ?_
  rintro r h' ⟨v, e1, e2, e3, e4⟩
  have e10 : ∀ j, j ≠ 8 → h' 10 j = h 10 j := fun j hj => by rw [e4]; exact if_neg hj
  have e7 := e3 7 (by decide)
  have e8 := e3 8 (by decide)
  have e11 := e3 11 (by decide)
  have e12 := e3 12 (by decide)
  have hD' := sy_D_fr e7 (fun j h1 h2 => e10 j h1) e11 e12 hD
  have hk' : h' 10 9 = 1 := by rw [e10 9 (by decide)]; exact hk
  refine ⟨v, e1, e2, e3, e10, ⟨cm_B_fr hB e3 (by decide) (by decide), cp_C_fr hC e3 (by decide), cp_S_fr hS e3 (by decide) (by decide), Or.inr ⟨hk', hD'⟩, Or.inr ⟨hk', ?_⟩⟩, hk', hD'⟩
  rw [show h' 10 8 = v by rw [e4]; rfl]
  exact sy_V_fr e7 e8 (fun j h1 h2 => e10 j h1) e1
theorem cq_V_ex {h : pg_H} {s n : Int} (hJ : cq_J h s n) : True ∧ ∃ v, sy_V h s n v := by
  obtain ⟨hs, hn, -⟩ := hJ.1.1
  have := mt_nn hn.1 hn.2
  exact ⟨trivial, _, 0, ⟨by omega, by omega⟩, rfl⟩
theorem cq_ways {h : pg_H} {s n : Int} (hQ : cq_I h s n) : pg_Sem true pm_S_colourWays [.inr (.inr 10)] h (fun r h' => ∃ (g : pg_H) (v : Int), pg_fr [10, 11, 12] h g ∧ cq_J g s n ∧ sy_V g s n v ∧ r = some (.inl (if g 10 7 * sy_sh g n < 1 then 1 else v / (g 10 7 * sy_sh g n))) ∧ pg_fr [9, 10, 11, 12] h h' ∧ cq_J h' s n ∧ sy_eq h h') := by
  refine pg_Sem_of pm_S_colourWays_f rfl ?_
  refine pg_ca 1 (L := []) (Mc := pm_S_study) (as := [.inr (.inr 10)]) (h0 := h) (pc := 4) (lv := [(0, .inr (.inr 10))]) (rest := []) rfl trivial (cq_study hQ) ?_
  intro r_1 g e_1; obtain ⟨er_, ef_, hJ, hse⟩ := e_1; rw [er_]; obtain ⟨hQg, hk_, hD_⟩ := id hJ; obtain ⟨hBg, hCg, hSg, -, -⟩ := id hQg; obtain ⟨hs, ⟨hn1, hn2⟩, -⟩ := id hBg; have hR := sy_R_of hs hn2 hD_
  refine pg_ca 1 (L := []) (Mc := pm_S_total) (as := [.inr (.inr 10)]) (h0 := g) (pc := 8) (lv := [(0, .inr (.inr 10))]) (rest := []) rfl trivial (cs_total hBg hR) ?_
  intro r_1 h_1 e_1; rw [e_1.1, e_1.2]
  have tb := sy_sh_bd hR ⟨hn1, hn2⟩
  have tl := hR.2.2.2.1
  have tt : 0 ≤ g 10 7 * sy_sh g n ∧ g 10 7 * sy_sh g n ≤ 1728 := ⟨Int.mul_nonneg tl.1 tb.1, by have := Int.mul_le_mul tl.2 tb.2 tb.1 (show (0 : Int) ≤ 12 by decide); omega⟩
  refine pg_br 3 (L := []) (P := pg_inR (g 10 7 * sy_sh g n) ∧ pg_inR 1) (c := 1 ≤ (g 10 7 * sy_sh g n)) (st1 := (18, [(0, .inr (.inr 10)), (1, .inl (g 10 7 * sy_sh g n))], [], g)) (st2 := (14, [(0, .inr (.inr 10)), (1, .inl (g 10 7 * sy_sh g n))], [], g)) rfl trivial ⟨⟨by omega, by omega⟩, ⟨by decide, by decide⟩⟩ (fun c_11_1 => ?_) (fun c_11_1 => ?_)
  · refine pg_ca 1 (L := []) (Mc := pm_S_allChanges) (as := [.inr (.inr 10)]) (h0 := g) (pc := 22) (lv := [(0, .inr (.inr 10)), (1, .inl (g 10 7 * sy_sh g n))]) (rest := []) rfl trivial (cq_ac hJ) ?_
    intro r_1 g2 e_1; obtain ⟨v_, hv_, er_, ef2_, e10_, hJ2⟩ := e_1; rw [er_]; have hvb := sy_V_bd hs ⟨hn1, hn2⟩ hR hv_
    refine pg_re 2 (L := [(g 10 7 * sy_sh g n) ≠ 0 ∧ pg_inR v_ ∧ pg_inR (g 10 7 * sy_sh g n)]) (r := some (.inl (Int.tdiv v_ (g 10 7 * sy_sh g n)))) (h0 := g2) rfl ⟨by omega, ⟨by omega, by omega⟩, ⟨by omega, by omega⟩⟩ ?_
    exact ⟨g, v_, ef_, hJ, hv_, by rw [if_neg (by omega), pg_tdiv_nn hvb.1], pg_fr_tr (pg_fr_tr (pg_fr_rf _ _) ef_ (by decide)) ef2_ (by decide), hJ2, fun hz => ⟨fun j hj => by rw [e10_ j hj]; exact (hse hz).1 j hj, by rw [ef2_ 11 (by decide)]; exact (hse hz).2.1, by rw [ef2_ 12 (by decide)]; exact (hse hz).2.2⟩⟩
  · refine pg_re 2 (L := []) (r := some (.inl 1)) (h0 := g) rfl trivial ?_
    obtain ⟨-, hVo⟩ := cq_V_ex hJ
    obtain ⟨v_, hv_⟩ := hVo
    exact ⟨g, v_, ef_, hJ, hv_, by rw [if_pos (by omega)], pg_fr_tr (pg_fr_rf _ _) ef_ (by decide), hJ, hse⟩
