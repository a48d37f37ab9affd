/-! the class: count; the calls that change -/
def ci_fg (h : pg_H) : pg_H := pg_up (pg_up (pg_up (pg_up (pg_up h 10 9 0) 10 8 (-1)) 13 4 0) 15 11 0) 18 6 0
theorem ci_fg_fr (h : pg_H) : pg_fr [10, 13, 15, 18] h (ci_fg h) := pg_fr_up (pg_fr_up (pg_fr_up (pg_fr_up (pg_fr_up (pg_fr_rf _ _) (by decide) _ _) (by decide) _ _) (by decide) _ _) (by decide) _ _) (by decide) _ _
theorem ci_fg_I {h : pg_H} {s n : Int} (hB : cm_B h s n) (hC : cp_C h) (hS : cp_S h n) (hR : rc_I h) (hG : gn_I h s n) : ci_I (ci_fg h) s n := by
  have hf := ci_fg_fr h
  exact ⟨⟨cm_B_fr hB hf (by decide) (by decide), cp_C_fr hC hf (by decide), cp_S_fr hS hf (by decide) (by decide), Or.inl rfl, Or.inl rfl⟩, rc_I_fr hf (by decide) (by decide) (by decide) hR, Or.inl rfl, Or.inl rfl, Or.inl rfl, gn_I_fr (hf 20 (by decide)) (hf 21 (by decide)) hG⟩
theorem gn_I_0 (g : pg_H) (s n : Int) : gn_I (pg_up g 20 4 0) s n := by
  refine ⟨?_, fun j hj => absurd (show (j : Int) < 0 from hj) (by omega)⟩
  show (0 : Int) ≤ 0 ∧ (0 : Int) ≤ 6
  decide
/-- the digits of D, painted from the point on: colours, and how many changed -/
def pa_run (n x y D : Int) (c0 : Nat → Int) : Nat → (Nat → Int) × Int
  | 0 => (c0, 0)
  | j + 1 => ((fun q => if q = (mt_pt n ((x + j) % n) (y % n)).toNat then D / 10 ^ j % 10 else (pa_run n x y D c0 j).1 q), (pa_run n x y D c0 j).2 + (if (pa_run n x y D c0 j).1 (mt_pt n ((x + j) % n) (y % n)).toNat = D / 10 ^ j % 10 then 0 else 1))
theorem pa_run_bd (n x y D : Int) (c0 : Nat → Int) (j : Nat) : 0 ≤ (pa_run n x y D c0 j).2 ∧ (pa_run n x y D c0 j).2 ≤ j := by
  induction j with
  | zero => exact ⟨Int.le_refl _, Int.le_refl _⟩
  | succ j ih =>
    simp only [pa_run]
    split <;> omega
theorem pg_tdiv10 {x : Int} (hx : 0 ≤ x) : Int.tdiv x 10 = x / 10 ∧ Int.tmod x 10 = x % 10 := ⟨Int.tdiv_eq_ediv_of_nonneg hx, Int.tmod_eq_emod_of_nonneg hx⟩
theorem pg_p10 (D : Int) (j : Nat) : D / 10 ^ j / 10 = D / 10 ^ (j + 1) := by
  rw [Int.ediv_ediv_of_nonneg (Int.pow_nonneg (by decide)), ← Int.pow_succ]
/-- the same object, painted -/
def ci_P (h g : pg_H) (s n : Int) (c : Nat → Int) : Prop := ci_I g s n ∧ g 7 = c ∧ g 20 = h 20 ∧ g 21 = h 21
theorem ci_fr78 {h g : pg_H} {s n : Int} (hI : ci_I h s n) (hf : pg_fr [7, 8] h g) (e7 : g 7 = h 7) (e8 : g 8 = h 8) : ci_I g s n := by
  have : g = h := by
    funext q
    by_cases h7 : q = 7
    · rw [h7, e7]
    · by_cases h8 : q = 8
      · rw [h8, e8]
      · exact hf q (by simp [h7, h8])
  rw [this]
  exact hI
theorem pg_cn_all {P : Nat → Prop} {m : Nat} (h : ∀ j, j < m → P j) : pg_cn P m = m := by
  induction m with
  | zero => rfl
  | succ m ih =>
    simp only [pg_cn]
    rw [ih (fun j hj => h j (by omega)), pg_b_t (h m (by omega))]
    omega
theorem ct_sp_I {h g : pg_H} {s n : Int} (hI : ci_I h s n) (hf : pg_fr [1, 2, 3, 7, 8] h g) (hR : rc_I g) (e7 : g 7 = h 7) (e8 : g 8 = h 8) : ci_I (pg_up g 20 4 0) s n := by
  obtain ⟨⟨hB, hC, hS, hK, hV⟩, -, h3, h4, h5, -⟩ := hI
  have hf2 : pg_fr [1, 2, 3, 20] h (pg_up g 20 4 0) := by
    refine pg_fr_up (fun q hq => ?_) (by decide) _ _
    by_cases h7 : q = 7
    · rw [h7, e7]
    · by_cases h8 : q = 8
      · rw [h8, e8]
      · exact hf q (by simp at hq; simp [h7, h8]; omega)
  have e10 := hf2 10 (by decide)
  have he : sy_eq h (pg_up g 20 4 0) := fun _ => ⟨fun j _ => by rw [e10], hf2 11 (by decide), hf2 12 (by decide)⟩
  have hk : h 10 9 = 1 → (pg_up g 20 4 0) 10 9 = 1 := fun hz => by rw [e10]; exact hz
  refine ⟨⟨cm_B_fr hB hf2 (by decide) (by decide), cp_C_fr hC hf2 (by decide), cp_S_fr hS hf2 (by decide) (by decide), ?_, ?_⟩, rc_I_fr (cs := [20]) (pg_fr_up (pg_fr_rf _ _) (by decide) _ _) (by decide) (by decide) (by decide) hR, po_I_fr he (hf2 13 (by decide)) (hf2 14 (by decide)) hk h3, sg_I_fr he (hf2 15 (by decide)) (hf2 16 (by decide)) (hf2 17 (by decide)) hk h4, hv_I_fr he (hf2 18 (by decide)) hk h5, gn_I_0 _ _ _⟩
  · rw [e10]
    rcases hK with h1 | h1
    · exact Or.inl h1
    · exact Or.inr ⟨h1.1, sy_D_fr (hf2 7 (by decide)) (fun j _ _ => by rw [e10]) (hf2 11 (by decide)) (hf2 12 (by decide)) h1.2⟩
  · rw [e10]
    rcases hV with h1 | h1
    · exact Or.inl h1
    · exact Or.inr ⟨h1.1, sy_V_fr (hf2 7 (by decide)) (hf2 8 (by decide)) (fun j _ _ => by rw [e10]) h1.2⟩
theorem ct_forget (h : pg_H) : pg_Sem true pm_P_forget [.inr (.inr 0)] h (fun r h' => r = none ∧ h' = ci_fg h) := by
  refine pg_Sem_of pm_P_forget_f rfl ?_
  refine pg_re 20 (L := [0 = 0 ∨ 0 = 1, 0 = 0 ∨ 0 = 1, 0 = 0 ∨ 0 = 1, 0 = 0 ∨ 0 = 1]) (r := none) (h0 := pg_up (pg_up (pg_up (pg_up (pg_up h 10 9 0) 10 8 (-1)) 13 4 0) 15 11 0) 18 6 0) rfl ⟨Or.inl rfl, Or.inl rfl, Or.inl rfl, Or.inl rfl⟩ ?_
  exact ⟨rfl, rfl⟩
theorem ct_begin {h : pg_H} {s n : Int} (hI : ci_I h s n) (a : Int) (ha : pg_inR a) (m : Int) (hm : pg_inR m) : pg_Sem true pm_P_begin [.inr (.inr 0), .inl a, .inl m] h (fun r h' => (¬ ((0 ≤ a ∧ a ≤ 1) ∧ 1 ≤ m ∧ m ≤ 12) ∧ r = some (.inl (-2)) ∧ h' = h) ∨ (((0 ≤ a ∧ a ≤ 1) ∧ 1 ≤ m ∧ m ≤ 12) ∧ r = some (.inl n) ∧ ci_I h' a m ∧ (∀ p : Nat, p < 144 → h' 7 p = 0) ∧ h' 20 4 = 0)) := by
  obtain ⟨hQ, hRc, hPo, hSg, hHv, hGn⟩ := id hI
  obtain ⟨hB, hC, hS, -, -⟩ := id hQ
  obtain ⟨hs, ⟨hn1, hn2⟩, e1, e2, e3, e5⟩ := id hB
  have hr := mt_rd_or hs
  obtain ⟨a1, a2⟩ := ha
  obtain ⟨m1, m2⟩ := hm
  refine pg_Sem_of pm_P_begin_f rfl ?_
  refine pg_br 1 (L := []) (P := pg_inR a) (c := a < 0) (st1 := (20, [(0, .inr (.inr 0)), (1, .inl a), (2, .inl m)], [], h)) (st2 := (4, [(0, .inr (.inr 0)), (1, .inl a), (2, .inl m)], [], h)) rfl trivial ⟨by omega, by omega⟩ (fun c_1_1 => ?_) (fun c_1_1 => ?_)
  · refine pg_re 1 (L := []) (r := some (.inl (-2))) (h0 := h) rfl trivial ?_
    exact Or.inl ⟨by omega, rfl, rfl⟩
  · refine pg_br 2 (L := []) (P := pg_inR a ∧ pg_inR 1) (c := 1 < a) (st1 := (20, [(0, .inr (.inr 0)), (1, .inl a), (2, .inl m)], [], h)) (st2 := (9, [(0, .inr (.inr 0)), (1, .inl a), (2, .inl m)], [], h)) rfl trivial ⟨⟨by omega, by omega⟩, ⟨by decide, by decide⟩⟩ (fun c_6_2 => ?_) (fun c_6_2 => ?_)
    · refine pg_re 1 (L := []) (r := some (.inl (-2))) (h0 := h) rfl trivial ?_
      exact Or.inl ⟨by omega, rfl, rfl⟩
    · refine pg_br 2 (L := []) (P := pg_inR m ∧ pg_inR 1) (c := m < 1) (st1 := (20, [(0, .inr (.inr 0)), (1, .inl a), (2, .inl m)], [], h)) (st2 := (14, [(0, .inr (.inr 0)), (1, .inl a), (2, .inl m)], [], h)) rfl trivial ⟨⟨by omega, by omega⟩, ⟨by decide, by decide⟩⟩ (fun c_11_3 => ?_) (fun c_11_3 => ?_)
      · refine pg_re 1 (L := []) (r := some (.inl (-2))) (h0 := h) rfl trivial ?_
        exact Or.inl ⟨by omega, rfl, rfl⟩
      · refine pg_br 2 (L := []) (P := pg_inR m ∧ pg_inR 12) (c := m ≤ 12) (st1 := (23, [(0, .inr (.inr 0)), (1, .inl a), (2, .inl m)], [], h)) (st2 := (20, [(0, .inr (.inr 0)), (1, .inl a), (2, .inl m)], [], h)) rfl trivial ⟨⟨by omega, by omega⟩, ⟨by decide, by decide⟩⟩ (fun c_17_4 => ?_) (fun c_17_4 => ?_)
        · refine pg_ca 8 (L := []) (Mc := pm_M_choose) (as := [.inr (.inr 4), .inl a, .inl m]) (h0 := h) (pc := 40) (lv := [(0, .inr (.inr 0)), (1, .inl a), (2, .inl m), (3, .inl (h 4 2))]) (rest := []) rfl trivial (cm_choose h a m (by omega) (by omega)) ?_
          intro r_1 g e_1; obtain ⟨er_, hB2, ef_⟩ := e_1; rw [er_]
          refine pg_ca 2 (L := []) (Mc := pm_C_clear) (as := [.inr (.inr 6)]) (h0 := g) (pc := 47) (lv := [(0, .inr (.inr 0)), (1, .inl a), (2, .inl m), (3, .inl (h 4 2))]) (rest := []) rfl trivial (cp_clear hB2) ?_
          intro r_1 g2 e_1; obtain ⟨er_, ef2_, e7_, e8_⟩ := e_1; rw [er_]
          have hC3 : cp_C (pg_up g2 20 4 0) := fun p hp => by show 0 ≤ g2 7 p ∧ g2 7 p ≤ 9; rw [e7_ p hp]; omega
          have hS3 : cp_S (pg_up g2 20 4 0) m := fun c hc => by
            show g2 8 c = pg_cn (fun p => g2 7 p = c) (m * m).toNat
            have hmm := mt_nn (n := m) (by omega) (by omega)
            rw [e8_ c hc]
            by_cases h0 : c = 0
            · rw [if_pos h0, pg_cn_all (fun j hj => by rw [e7_ j (by omega), h0]; rfl)]; omega
            · rw [if_neg h0, pg_cn_0 (fun j hj hz => by rw [e7_ j (by omega)] at hz; omega)]
          refine pg_ca 2 (L := []) (Mc := pm_N_clear) (as := [.inr (.inr 20)]) (h0 := g2) (pc := 54) (lv := [(0, .inr (.inr 0)), (1, .inl a), (2, .inl m), (3, .inl (h 4 2))]) (rest := []) rfl trivial (gn_clear g2) ?_
          intro r_1 h_1 e_1; rw [e_1.1, e_1.2]
          refine pg_ca 1 (L := []) (Mc := pm_P_forget) (as := [.inr (.inr 0)]) (h0 := pg_up g2 20 4 0) (pc := 58) (lv := [(0, .inr (.inr 0)), (1, .inl a), (2, .inl m), (3, .inl (h 4 2))]) (rest := []) rfl trivial (ct_forget (pg_up g2 20 4 0)) ?_
          intro r_1 h_1 e_1; rw [e_1.1, e_1.2]
          refine pg_re 1 (L := []) (r := some (.inl (h 4 2))) (h0 := (ci_fg (pg_up g2 20 4 0))) rfl trivial ?_
          refine Or.inr ⟨by omega, by rw [show h 4 2 = n by omega], ?_, ?_, rfl⟩
          · exact ci_fg_I (cm_B_fr hB2 (pg_fr_up (pg_fr_tr (pg_fr_rf [7, 8, 20] _) ef2_ (by decide)) (by decide) _ _) (by decide) (by decide)) hC3 hS3 (rc_I_fr (cs := [4, 5, 7, 8, 20]) (pg_fr_up (pg_fr_tr (pg_fr_tr (pg_fr_rf _ _) ef_ (by decide)) ef2_ (by decide)) (by decide) _ _) (by decide) (by decide) (by decide) hRc) (gn_I_0 _ _ _)
          · exact e7_
        · refine pg_re 1 (L := []) (r := some (.inl (-2))) (h0 := h) rfl trivial ?_
          exact Or.inl ⟨by omega, rfl, rfl⟩
theorem ct_paint {h : pg_H} {s n : Int} (hI : ci_I h s n) (x : Int) (hx : pg_inR x) (y : Int) (hy : pg_inR y) (c : Int) (hc : pg_inR c) : pg_Sem true pm_P_paint [.inr (.inr 0), .inl x, .inl y, .inl c] h (fun r h' => (¬ (0 ≤ c ∧ c ≤ 9) ∧ r = some (.inl (-2)) ∧ h' = h) ∨ ((0 ≤ c ∧ c ≤ 9) ∧ r = some (.inl (h 7 (mt_pt n (x % n) (y % n)).toNat)) ∧ ci_P h h' s n (fun q => if q = (mt_pt n (x % n) (y % n)).toNat then c else h 7 q))) := by
  obtain ⟨hQ, hRc, hPo, hSg, hHv, hGn⟩ := id hI
  obtain ⟨hB, hC, hS, -, -⟩ := id hQ
  obtain ⟨hs, ⟨hn1, hn2⟩, e1, e2, e3, e5⟩ := id hB
  have hr := mt_rd_or hs
  obtain ⟨x1, x2⟩ := hx
  obtain ⟨y1, y2⟩ := hy
  obtain ⟨c1, c2⟩ := hc
  have hnn := mt_nn hn1 hn2
  have hpt := mt_pt_bd hn1 hn2 (mt_mod hn1 x) (mt_mod hn1 y)
  have hif3 : ((if 0 ≤ c ∧ c ≤ 9 then (1 : Int) else 0) = 1 ∧ (0 ≤ c ∧ c ≤ 9)) ∨ ((if 0 ≤ c ∧ c ≤ 9 then (1 : Int) else 0) = 0 ∧ ¬ (0 ≤ c ∧ c ≤ 9)) := by split <;> simp_all
  refine pg_Sem_of pm_P_paint_f rfl ?_
  refine pg_ca 1 (L := []) (Mc := pm_P_isColour) (as := [.inl c]) (h0 := h) (pc := 4) (lv := [(0, .inr (.inr 0)), (1, .inl x), (2, .inl y), (3, .inl c)]) (rest := []) rfl trivial (ct_isColour h c ⟨by omega, by omega⟩) ?_
  intro r_1 h_1 e_1; rw [e_1.1, e_1.2]
  refine pg_br 0 (L := []) (P := pg_inR (if 0 ≤ c ∧ c ≤ 9 then 1 else 0)) (c := ¬ (if 0 ≤ c ∧ c ≤ 9 then 1 else 0) = 0) (st1 := (10, [(0, .inr (.inr 0)), (1, .inl x), (2, .inl y), (3, .inl c)], [], h)) (st2 := (7, [(0, .inr (.inr 0)), (1, .inl x), (2, .inl y), (3, .inl c)], [], h)) rfl trivial ⟨by omega, by omega⟩ (fun c_4_1 => ?_) (fun c_4_1 => ?_)
  · refine pg_ca 4 (L := []) (Mc := pm_M_point) (as := [.inr (.inr 4), .inl x, .inl y]) (h0 := h) (pc := 19) (lv := [(0, .inr (.inr 0)), (1, .inl x), (2, .inl y), (3, .inl c)]) (rest := []) rfl trivial (cm_point hB x y ⟨by omega, by omega⟩ ⟨by omega, by omega⟩) ?_
    intro r_1 h_1 e_1; rw [e_1.1, e_1.2]
    refine pg_ca 11 (L := [0 ≤ (mt_pt n (x % n) (y % n)) ∧ (mt_pt n (x % n) (y % n)) < (144 : Int)]) (Mc := pm_C_put) (as := [.inr (.inr 6), .inl (mt_pt n (x % n) (y % n)), .inl c]) (h0 := h) (pc := 43) (lv := [(0, .inr (.inr 0)), (1, .inl x), (2, .inl y), (3, .inl c), (4, .inl (mt_pt n (x % n) (y % n))), (5, .inl (h 7 ((mt_pt n (x % n) (y % n)).toNat)))]) (rest := []) rfl ⟨by omega, by omega⟩ (cp_put hC hS (by omega) (p := (mt_pt n (x % n) (y % n))) (c := c) ⟨by omega, by omega⟩ (by omega)) ?_
    intro r_1 g e_1; obtain ⟨er_, ef_, e7_, eS_, eq_⟩ := e_1; rw [er_]
    have hC2 : cp_C g := fun p hp => by rw [e7_]; show 0 ≤ (if p = _ then c else h 7 p) ∧ (if p = _ then c else h 7 p) ≤ 9; split; (· omega); (· exact hC p hp)
    have hif9 : ((if h 7 (mt_pt n (x % n) (y % n)).toNat = c then (0 : Int) else 1) = 0 ∧ h 7 (mt_pt n (x % n) (y % n)).toNat = c) ∨ ((if h 7 (mt_pt n (x % n) (y % n)).toNat = c then (0 : Int) else 1) = 1 ∧ ¬ h 7 (mt_pt n (x % n) (y % n)).toNat = c) := by split <;> simp_all
    refine pg_br 0 (L := []) (P := pg_inR (if h 7 (mt_pt n (x % n) (y % n)).toNat = c then 0 else 1)) (c := (if h 7 (mt_pt n (x % n) (y % n)).toNat = c then 0 else 1) = 0) (st1 := (50, [(0, .inr (.inr 0)), (1, .inl x), (2, .inl y), (3, .inl c), (4, .inl (mt_pt n (x % n) (y % n))), (5, .inl (h 7 ((mt_pt n (x % n) (y % n)).toNat)))], [], g)) (st2 := (46, [(0, .inr (.inr 0)), (1, .inl x), (2, .inl y), (3, .inl c), (4, .inl (mt_pt n (x % n) (y % n))), (5, .inl (h 7 ((mt_pt n (x % n) (y % n)).toNat)))], [], g)) rfl trivial ⟨by omega, by omega⟩ (fun c_43_2 => ?_) (fun c_43_2 => ?_)
    · refine pg_re 1 (L := []) (r := some (.inl (h 7 ((mt_pt n (x % n) (y % n)).toNat)))) (h0 := g) rfl trivial ?_
      refine Or.inr ⟨by omega, rfl, ?_, e7_, ef_ 20 (by decide), ef_ 21 (by decide)⟩
      rw [eq_ (by omega)]; exact hI
    · refine pg_ca 1 (L := []) (Mc := pm_P_forget) (as := [.inr (.inr 0)]) (h0 := g) (pc := 50) (lv := [(0, .inr (.inr 0)), (1, .inl x), (2, .inl y), (3, .inl c), (4, .inl (mt_pt n (x % n) (y % n))), (5, .inl (h 7 ((mt_pt n (x % n) (y % n)).toNat)))]) (rest := []) rfl trivial (ct_forget g) ?_
      intro r_1 h_1 e_1; rw [e_1.1, e_1.2]
      refine pg_re 1 (L := []) (r := some (.inl (h 7 ((mt_pt n (x % n) (y % n)).toNat)))) (h0 := (ci_fg g)) rfl trivial ?_
      refine Or.inr ⟨by omega, rfl, ?_, e7_, ef_ 20 (by decide), ef_ 21 (by decide)⟩
      exact ci_fg_I (cm_B_fr hB ef_ (by decide) (by decide)) hC2 eS_ (rc_I_fr ef_ (by decide) (by decide) (by decide) hRc) (gn_I_fr (ef_ 20 (by decide)) (ef_ 21 (by decide)) hGn)
  · refine pg_re 1 (L := []) (r := some (.inl (-2))) (h0 := h) rfl trivial ?_
    exact Or.inl ⟨by omega, rfl, rfl⟩
set_option maxHeartbeats 4000000 in
theorem ct_paints_l {h : pg_H} {s n : Int} (hI : ci_I h s n) (x : Int) (hx : pg_inR x) (y : Int) (hy : pg_inR y) {w D : Int} (hw : 1 ≤ w ∧ w ≤ 9) (hD : 0 ≤ D ∧ D ≤ 2147483647) : ∀ (d : Nat) (g : pg_H) (f e j : Int) (hd : j + (d : Int) = w) (hj : 0 ≤ j) (hf : pg_fr [7, 8] h g) (hCg : cp_C g) (hSg : cp_S g n) (h7 : g 7 = (pa_run n (x % n) y D (h 7) j.toNat).1) (hfv : f = (pa_run n (x % n) y D (h 7) j.toNat).2) (he : e = D / 10 ^ j.toNat) (h0 : f = 0 → g = h), pg_Good true pm_P_paints (fun r h' => (¬ ((1 ≤ w ∧ w ≤ 9) ∧ 0 ≤ D) ∧ r = some (.inl (-2)) ∧ h' = h) ∨ (((1 ≤ w ∧ w ≤ 9) ∧ 0 ≤ D) ∧ r = some (.inl (pa_run n (x % n) y D (h 7) w.toNat).2) ∧ ci_P h h' s n (pa_run n (x % n) y D (h 7) w.toNat).1)) (39, [(0, .inr (.inr 0)), (1, .inl x), (2, .inl y), (3, .inl w), (4, .inl D), (5, .inl f), (6, .inl e), (7, .inl (x % n)), (8, .inl j)], [], g) := by
  intro d
  induction d with
  | zero =>
    intro g f e j hd hj hf hCg hSg h7 hfv he h0
    obtain ⟨hQ, hRc, -, -, -, hGn⟩ := id hI
    obtain ⟨hB, hC, hS, -, -⟩ := id hQ
    obtain ⟨hs, ⟨hn1, hn2⟩, e1, e2, e3, e5⟩ := id hB
    have hr := mt_rd_or hs
    have hnn := mt_nn hn1 hn2
    obtain ⟨x1, x2⟩ := hx
    obtain ⟨y1, y2⟩ := hy
    have mx := mt_mod hn1 x
    have hBg := cm_B_fr hB hf (by decide) (by decide)
    have hrb := pa_run_bd n (x % n) y D (h 7) j.toNat
    have he0 : 0 ≤ e ∧ e ≤ 2147483647 := by rw [he]; exact ⟨Int.ediv_nonneg hD.1 (Int.pow_nonneg (by decide)), Int.le_trans (Int.ediv_le_self _ hD.1) hD.2⟩
    have ht := pg_tdiv10 he0.1
    refine pg_br 2 (L := []) (P := pg_inR j ∧ pg_inR w) (c := w ≤ j) (st1 := (89, [(0, .inr (.inr 0)), (1, .inl x), (2, .inl y), (3, .inl w), (4, .inl D), (5, .inl f), (6, .inl e), (7, .inl (x % n)), (8, .inl j)], [], g)) (st2 := (45, [(0, .inr (.inr 0)), (1, .inl x), (2, .inl y), (3, .inl w), (4, .inl D), (5, .inl f), (6, .inl e), (7, .inl (x % n)), (8, .inl j)], [], g)) rfl trivial ⟨⟨by omega, by omega⟩, ⟨by omega, by omega⟩⟩ (fun c_42_1 => ?_) (fun c_42_1 => ?_)
    · refine pg_br 1 (L := []) (P := pg_inR f) (c := f ≤ 0) (st1 := (98, [(0, .inr (.inr 0)), (1, .inl x), (2, .inl y), (3, .inl w), (4, .inl D), (5, .inl f), (6, .inl e), (7, .inl (x % n)), (8, .inl j)], [], g)) (st2 := (94, [(0, .inr (.inr 0)), (1, .inl x), (2, .inl y), (3, .inl w), (4, .inl D), (5, .inl f), (6, .inl e), (7, .inl (x % n)), (8, .inl j)], [], g)) rfl trivial ⟨by omega, by omega⟩ (fun c_91_2 => ?_) (fun c_91_2 => ?_)
      · refine pg_re 1 (L := []) (r := some (.inl f)) (h0 := g) rfl trivial ?_
        refine Or.inr ⟨⟨hw, hD.1⟩, ?_, ?_, ?_, hf 20 (by decide), hf 21 (by decide)⟩
        · rw [hfv, show w = j by omega]
        · rw [h0 (by omega)]; exact hI
        · rw [show w = j by omega]; exact h7
      · refine pg_ca 1 (L := []) (Mc := pm_P_forget) (as := [.inr (.inr 0)]) (h0 := g) (pc := 98) (lv := [(0, .inr (.inr 0)), (1, .inl x), (2, .inl y), (3, .inl w), (4, .inl D), (5, .inl f), (6, .inl e), (7, .inl (x % n)), (8, .inl j)]) (rest := []) rfl trivial (ct_forget g) ?_
        intro r_1 h_1 e_1; rw [e_1.1, e_1.2]
        refine pg_re 1 (L := []) (r := some (.inl f)) (h0 := (ci_fg g)) rfl trivial ?_
        refine Or.inr ⟨⟨hw, hD.1⟩, ?_, ?_, ?_, hf 20 (by decide), hf 21 (by decide)⟩
        · rw [hfv, show w = j by omega]
        · exact ci_fg_I hBg hCg hSg (rc_I_fr hf (by decide) (by decide) (by decide) hRc) (gn_I_fr (hf 20 (by decide)) (hf 21 (by decide)) hGn)
        · rw [show w = j by omega]; exact h7
    · exact (by exfalso; omega)
  | succ d ih =>
    intro g f e j hd hj hf hCg hSg h7 hfv he h0
    obtain ⟨hQ, hRc, -, -, -, hGn⟩ := id hI
    obtain ⟨hB, hC, hS, -, -⟩ := id hQ
    obtain ⟨hs, ⟨hn1, hn2⟩, e1, e2, e3, e5⟩ := id hB
    have hr := mt_rd_or hs
    have hnn := mt_nn hn1 hn2
    obtain ⟨x1, x2⟩ := hx
    obtain ⟨y1, y2⟩ := hy
    have mx := mt_mod hn1 x
    have hBg := cm_B_fr hB hf (by decide) (by decide)
    have hrb := pa_run_bd n (x % n) y D (h 7) j.toNat
    have he0 : 0 ≤ e ∧ e ≤ 2147483647 := by rw [he]; exact ⟨Int.ediv_nonneg hD.1 (Int.pow_nonneg (by decide)), Int.le_trans (Int.ediv_le_self _ hD.1) hD.2⟩
    have ht := pg_tdiv10 he0.1
    have hpt := mt_pt_bd hn1 hn2 (mt_mod hn1 (x % n + j)) (mt_mod hn1 y)
    have ek : (j + 1).toNat = j.toNat + 1 := by omega
    have ek2 : ((j.toNat : Nat) : Int) = j := by omega
    refine pg_br 2 (L := []) (P := pg_inR j ∧ pg_inR w) (c := w ≤ j) (st1 := (89, [(0, .inr (.inr 0)), (1, .inl x), (2, .inl y), (3, .inl w), (4, .inl D), (5, .inl f), (6, .inl e), (7, .inl (x % n)), (8, .inl j)], [], g)) (st2 := (45, [(0, .inr (.inr 0)), (1, .inl x), (2, .inl y), (3, .inl w), (4, .inl D), (5, .inl f), (6, .inl e), (7, .inl (x % n)), (8, .inl j)], [], g)) rfl trivial ⟨⟨by omega, by omega⟩, ⟨by omega, by omega⟩⟩ (fun c_42_3 => ?_) (fun c_42_3 => ?_)
    · exact (by exfalso; omega)
    · refine pg_ca 8 (L := []) (Mc := pm_M_point) (as := [.inr (.inr 4), .inl ((x % n) + j), .inl y]) (h0 := g) (pc := 62) (lv := [(0, .inr (.inr 0)), (1, .inl x), (2, .inl y), (3, .inl w), (4, .inl D), (5, .inl f), (6, .inl e), (7, .inl (x % n)), (8, .inl j)]) (rest := [.inr (.inr 6)]) rfl trivial (cm_point hBg ((x % n) + j) y ⟨by omega, by omega⟩ ⟨by omega, by omega⟩) ?_
      intro r_1 h_1 e_1; rw [e_1.1, e_1.2]
      refine pg_ca 3 (L := [10 ≠ 0 ∧ pg_inR e ∧ pg_inR 10]) (Mc := pm_C_put) (as := [.inr (.inr 6), .inl (mt_pt n (((x % n) + j) % n) (y % n)), .inl (Int.tmod e 10)]) (h0 := g) (pc := 70) (lv := [(0, .inr (.inr 0)), (1, .inl x), (2, .inl y), (3, .inl w), (4, .inl D), (5, .inl f), (6, .inl e), (7, .inl (x % n)), (8, .inl j)]) (rest := []) rfl ⟨by omega, ⟨by omega, by omega⟩, ⟨by omega, by omega⟩⟩ (cp_put hCg hSg (by omega) (p := (mt_pt n ((x % n + j) % n) (y % n))) (c := Int.tmod e 10) ⟨by omega, by omega⟩ (by omega)) ?_
      intro r_1 g2 e_1; obtain ⟨er_, ef2_, e72_, eS2_, eq2_⟩ := e_1; rw [er_]
      have hC2 : cp_C g2 := fun p hp => by rw [e72_]; show 0 ≤ (if p = _ then Int.tmod e 10 else g 7 p) ∧ (if p = _ then Int.tmod e 10 else g 7 p) ≤ 9; split; (· omega); (· exact hCg p hp)
      have hif9 : ((if g 7 (mt_pt n ((x % n + j) % n) (y % n)).toNat = Int.tmod e 10 then (0 : Int) else 1) = 0 ∧ g 7 (mt_pt n ((x % n + j) % n) (y % n)).toNat = Int.tmod e 10) ∨ ((if g 7 (mt_pt n ((x % n + j) % n) (y % n)).toNat = Int.tmod e 10 then (0 : Int) else 1) = 1 ∧ ¬ g 7 (mt_pt n ((x % n + j) % n) (y % n)).toNat = Int.tmod e 10) := by split <;> simp_all
      have ef3_ := pg_fr_tr hf ef2_ (by decide)
      refine pg_br 0 (L := []) (P := pg_inR (if g 7 (mt_pt n ((x % n + j) % n) (y % n)).toNat = Int.tmod e 10 then 0 else 1)) (c := (if g 7 (mt_pt n ((x % n + j) % n) (y % n)).toNat = Int.tmod e 10 then 0 else 1) = 0) (st1 := (76, [(0, .inr (.inr 0)), (1, .inl x), (2, .inl y), (3, .inl w), (4, .inl D), (5, .inl f), (6, .inl e), (7, .inl (x % n)), (8, .inl j)], [], g2)) (st2 := (73, [(0, .inr (.inr 0)), (1, .inl x), (2, .inl y), (3, .inl w), (4, .inl D), (5, .inl f), (6, .inl e), (7, .inl (x % n)), (8, .inl j)], [], g2)) rfl trivial ⟨by omega, by omega⟩ (fun c_70_4 => ?_) (fun c_70_4 => ?_)
      · refine pg_go 6 (L := [10 ≠ 0 ∧ pg_inR e ∧ pg_inR 10]) (st' := (39, [(0, .inr (.inr 0)), (1, .inl x), (2, .inl y), (3, .inl w), (4, .inl D), (5, .inl f), (6, .inl (Int.tdiv e 10)), (7, .inl (x % n)), (8, .inl (j + 1))], [], g2)) rfl ⟨by omega, ⟨by omega, by omega⟩, ⟨by omega, by omega⟩⟩ ?_
        refine ih g2 _ _ _ (by omega) (by omega) ef3_ hC2 eS2_ ?_ ?_ ?_ ?_
        · rw [e72_, ek]; simp only [pa_run]; rw [ek2, ht.2, h7, he]
        · rw [ek]; simp only [pa_run]; rw [ek2, ← h7, ← he, ← ht.2, ← hfv]; omega
        · rw [ht.1, he, ek, pg_p10]
        · intro hz; first | (exfalso; omega) | (rw [eq2_ (by omega)]; exact h0 (by omega))
      · refine pg_go 7 (L := [10 ≠ 0 ∧ pg_inR e ∧ pg_inR 10]) (st' := (39, [(0, .inr (.inr 0)), (1, .inl x), (2, .inl y), (3, .inl w), (4, .inl D), (5, .inl (f + 1)), (6, .inl (Int.tdiv e 10)), (7, .inl (x % n)), (8, .inl (j + 1))], [], g2)) rfl ⟨by omega, ⟨by omega, by omega⟩, ⟨by omega, by omega⟩⟩ ?_
        refine ih g2 _ _ _ (by omega) (by omega) ef3_ hC2 eS2_ ?_ ?_ ?_ ?_
        · rw [e72_, ek]; simp only [pa_run]; rw [ek2, ht.2, h7, he]
        · rw [ek]; simp only [pa_run]; rw [ek2, ← h7, ← he, ← ht.2, ← hfv]; omega
        · rw [ht.1, he, ek, pg_p10]
        · intro hz; first | (exfalso; omega) | (rw [eq2_ (by omega)]; exact h0 (by omega))
theorem ct_paints {h : pg_H} {s n : Int} (hI : ci_I h s n) (x : Int) (hx : pg_inR x) (y : Int) (hy : pg_inR y) (w : Int) (hw : pg_inR w) (D : Int) (hD : pg_inR D) : pg_Sem true pm_P_paints [.inr (.inr 0), .inl x, .inl y, .inl w, .inl D] h (fun r h' => (¬ ((1 ≤ w ∧ w ≤ 9) ∧ 0 ≤ D) ∧ r = some (.inl (-2)) ∧ h' = h) ∨ (((1 ≤ w ∧ w ≤ 9) ∧ 0 ≤ D) ∧ r = some (.inl (pa_run n (x % n) y D (h 7) w.toNat).2) ∧ ci_P h h' s n (pa_run n (x % n) y D (h 7) w.toNat).1)) := by
  obtain ⟨hQ, hRc, hPo, hSg, hHv, hGn⟩ := id hI
  obtain ⟨hB, hC, hS, -, -⟩ := id hQ
  obtain ⟨hs, ⟨hn1, hn2⟩, e1, e2, e3, e5⟩ := id hB
  have hr := mt_rd_or hs
  obtain ⟨x1, x2⟩ := id hx
  obtain ⟨w1, w2⟩ := hw
  obtain ⟨D1, D2⟩ := hD
  refine pg_Sem_of pm_P_paints_f rfl ?_
  refine pg_br 2 (L := []) (P := pg_inR w ∧ pg_inR 1) (c := w < 1) (st1 := (16, [(0, .inr (.inr 0)), (1, .inl x), (2, .inl y), (3, .inl w), (4, .inl D)], [], h)) (st2 := (5, [(0, .inr (.inr 0)), (1, .inl x), (2, .inl y), (3, .inl w), (4, .inl D)], [], h)) rfl trivial ⟨⟨by omega, by omega⟩, ⟨by decide, by decide⟩⟩ (fun c_2_1 => ?_) (fun c_2_1 => ?_)
  · refine pg_re 1 (L := []) (r := some (.inl (-2))) (h0 := h) rfl trivial ?_
    exact Or.inl ⟨by omega, rfl, rfl⟩
  · refine pg_br 2 (L := []) (P := pg_inR w ∧ pg_inR 9) (c := 9 < w) (st1 := (16, [(0, .inr (.inr 0)), (1, .inl x), (2, .inl y), (3, .inl w), (4, .inl D)], [], h)) (st2 := (11, [(0, .inr (.inr 0)), (1, .inl x), (2, .inl y), (3, .inl w), (4, .inl D)], [], h)) rfl trivial ⟨⟨by omega, by omega⟩, ⟨by decide, by decide⟩⟩ (fun c_8_2 => ?_) (fun c_8_2 => ?_)
    · refine pg_re 1 (L := []) (r := some (.inl (-2))) (h0 := h) rfl trivial ?_
      exact Or.inl ⟨by omega, rfl, rfl⟩
    · refine pg_br 1 (L := []) (P := pg_inR D) (c := 0 ≤ D) (st1 := (19, [(0, .inr (.inr 0)), (1, .inl x), (2, .inl y), (3, .inl w), (4, .inl D)], [], h)) (st2 := (16, [(0, .inr (.inr 0)), (1, .inl x), (2, .inl y), (3, .inl w), (4, .inl D)], [], h)) rfl trivial ⟨by omega, by omega⟩ (fun c_13_3 => ?_) (fun c_13_3 => ?_)
      · refine pg_ca 7 (L := []) (Mc := pm_M_wrap) (as := [.inr (.inr 4), .inl x]) (h0 := h) (pc := 34) (lv := [(0, .inr (.inr 0)), (1, .inl x), (2, .inl y), (3, .inl w), (4, .inl D), (5, .inl 0), (6, .inl D)]) (rest := []) rfl trivial (cm_wrap hB x ⟨by omega, by omega⟩) ?_
        intro r_1 h_1 e_1; rw [e_1.1, e_1.2]
        refine pg_go 3 (L := []) (st' := (39, [(0, .inr (.inr 0)), (1, .inl x), (2, .inl y), (3, .inl w), (4, .inl D), (5, .inl 0), (6, .inl D), (7, .inl (x % n)), (8, .inl 0)], [], h)) rfl trivial ?_
        exact ct_paints_l hI x hx y hy (w := w) (D := D) (by omega) (by omega) w.toNat h 0 D 0 (by omega) (by omega) (pg_fr_rf _ _) hC hS rfl rfl (by simp) (fun _ => rfl)
      · refine pg_re 1 (L := []) (r := some (.inl (-2))) (h0 := h) rfl trivial ?_
        exact Or.inl ⟨by omega, rfl, rfl⟩
theorem ct_spread {h : pg_H} {s n : Int} (hI : ci_I h s n) : pg_Sem true pm_P_spread [.inr (.inr 0)] h (fun r h' => r = some (.inl (gp_R (gp_S h s n) (n * n).toNat (h 7) (n * n).toNat).2.2) ∧ ci_I h' s n ∧ (∀ q : Nat, (q : Int) < n * n → h' 7 q = (gp_R (gp_S h s n) (n * n).toNat (h 7) (n * n).toNat).2.1 q) ∧ h' 20 4 = 0) := by
  obtain ⟨hQ, hRc, hPo, hSg, hHv, hGn⟩ := id hI
  obtain ⟨hB, hC, hS, -, -⟩ := id hQ
  obtain ⟨hs, ⟨hn1, hn2⟩, e1, e2, e3, e5⟩ := id hB
  have hr := mt_rd_or hs
  have hnn := mt_nn hn1 hn2
  have hrb := gp_R_bd (gp_S h s n) (n * n).toNat (h 7) (n * n).toNat
  have hrm : (((n * n).toNat : Nat) : Int) * ((n * n).toNat : Nat) ≤ 144 * 144 := Int.mul_le_mul (by omega) (by omega) (by omega) (by decide)
  refine pg_Sem_of pm_P_spread_f rfl ?_
  refine pg_ca 2 (L := []) (Mc := pm_N_paintAlike) (as := [.inr (.inr 20)]) (h0 := h) (pc := 7) (lv := [(0, .inr (.inr 0))]) (rest := []) rfl trivial (gp_al hB hGn hRc hC hS) ?_
  intro r_1 g e_1; obtain ⟨L_, er_, ef_, hPg, h7_, h0_⟩ := e_1; rw [er_]
  have hfu : pg_fr [1, 2, 3, 7, 8, 20] h (pg_up g 20 4 0) := pg_fr_up (pg_fr_tr (pg_fr_rf _ _) ef_ (by decide)) (by decide) _ _
  have hG0 : gn_I (pg_up g 20 4 0) s n := gn_I_0 _ _ _
  refine pg_ca 3 (L := []) (Mc := pm_N_clear) (as := [.inr (.inr 20)]) (h0 := g) (pc := 15) (lv := [(0, .inr (.inr 0)), (1, .inl ((gp_R (gp_S h s n) (n * n).toNat (h 7) (n * n).toNat).2.2))]) (rest := []) rfl trivial (gn_clear g) ?_
  intro r_1 h_1 e_1; rw [e_1.1, e_1.2]
  refine pg_br 1 (L := []) (P := pg_inR ((gp_R (gp_S h s n) (n * n).toNat (h 7) (n * n).toNat).2.2)) (c := ((gp_R (gp_S h s n) (n * n).toNat (h 7) (n * n).toNat).2.2) ≤ 0) (st1 := (23, [(0, .inr (.inr 0)), (1, .inl ((gp_R (gp_S h s n) (n * n).toNat (h 7) (n * n).toNat).2.2))], [], pg_up g 20 4 0)) (st2 := (19, [(0, .inr (.inr 0)), (1, .inl ((gp_R (gp_S h s n) (n * n).toNat (h 7) (n * n).toNat).2.2))], [], pg_up g 20 4 0)) rfl trivial ⟨by omega, by omega⟩ (fun c_16_1 => ?_) (fun c_16_1 => ?_)
  · refine pg_re 1 (L := []) (r := some (.inl ((gp_R (gp_S h s n) (n * n).toNat (h 7) (n * n).toNat).2.2))) (h0 := pg_up g 20 4 0) rfl trivial ?_
    refine ⟨rfl, ?_, h7_, rfl⟩
    obtain ⟨e7, e8⟩ := h0_ (by omega)
    exact ct_sp_I hI ef_ hPg.2.2.1.1 e7 e8
  · refine pg_ca 1 (L := []) (Mc := pm_P_forget) (as := [.inr (.inr 0)]) (h0 := pg_up g 20 4 0) (pc := 23) (lv := [(0, .inr (.inr 0)), (1, .inl ((gp_R (gp_S h s n) (n * n).toNat (h 7) (n * n).toNat).2.2))]) (rest := []) rfl trivial (ct_forget (pg_up g 20 4 0)) ?_
    intro r_1 h_1 e_1; rw [e_1.1, e_1.2]
    refine pg_re 1 (L := []) (r := some (.inl ((gp_R (gp_S h s n) (n * n).toNat (h 7) (n * n).toNat).2.2))) (h0 := (ci_fg (pg_up g 20 4 0))) rfl trivial ?_
    refine ⟨rfl, ?_, h7_, rfl⟩
    exact ci_fg_I (cm_B_fr hB hfu (by decide) (by decide)) hPg.1 hPg.2.1 hPg.2.2.1.1 hG0
theorem ct_countMoves {h : pg_H} {s n : Int} (hI : ci_I h s n) (w : Int) (hw : (w = 4 ∨ w = 5 ∨ w = 6 ∨ w = 8 ∨ w = 9)) : pg_Sem true pm_P_countMoves [.inr (.inr 0), .inl w] h (fun r h' => ci_Q h h' s n ∧ ∃ (g : pg_H) (z : Int), pg_fr [10, 11, 12] h g ∧ cq_J g s n ∧ r = some (.inl z) ∧ (w = 4 → z = g 10 4 * g 10 6) ∧ (w = 5 → z = g 10 7 * sy_sh g n) ∧ (w = 6 → z = g 10 7) ∧ (w = 8 → z = sy_sh g n) ∧ (w = 9 → sy_V g s n z)) := by
  obtain ⟨hQ, hRc, hPo, hSg, hHv, hGn⟩ := id hI
  obtain ⟨hB, hC, hS, -, -⟩ := id hQ
  obtain ⟨hs, ⟨hn1, hn2⟩, e1, e2, e3, e5⟩ := id hB
  have hr := mt_rd_or hs
  refine pg_Sem_of pm_P_countMoves_f rfl ?_
  refine pg_ca 2 (L := []) (Mc := pm_S_study) (as := [.inr (.inr 10)]) (h0 := h) (pc := 7) (lv := [(0, .inr (.inr 0)), (1, .inl w)]) (rest := []) rfl trivial (cq_study hQ) ?_
  intro r_1 g e_1; obtain ⟨er_, ef_, hJ, hse⟩ := e_1; rw [er_]; have hRg := sy_R_of hs hn2 hJ.2.2; have hBg := hJ.1.1; have hq1 := ci_q1 hI (pg_fr_tr (pg_fr_rf _ _) ef_ (by decide)) hse hJ.1
  rcases hw with rfl | rfl | rfl | rfl | rfl
  · refine pg_re 9 (L := [pg_inR 4]) (r := some (.inl ((g 10 4) * (g 10 6)))) (h0 := g) rfl ⟨by decide, by decide⟩ ?_
    refine ⟨hq1, g, _, ef_, hJ, rfl, fun _ => rfl, fun hz => absurd hz (by decide), fun hz => absurd hz (by decide), fun hz => absurd hz (by decide), fun hz => absurd hz (by decide)⟩
  · refine pg_ca 4 (L := [pg_inR 5]) (Mc := pm_S_total) (as := [.inr (.inr 10)]) (h0 := g) (pc := 67) (lv := [(0, .inr (.inr 0)), (1, .inl 5)]) (rest := []) rfl ⟨by decide, by decide⟩ (cs_total hBg hRg) ?_
    intro r_1 h_1 e_1; rw [e_1.1, e_1.2]
    refine pg_re 0 (L := []) (r := some (.inl (g 10 7 * sy_sh g n))) (h0 := g) rfl trivial ?_
    refine ⟨hq1, g, _, ef_, hJ, rfl, fun hz => absurd hz (by decide), fun _ => rfl, fun hz => absurd hz (by decide), fun hz => absurd hz (by decide), fun hz => absurd hz (by decide)⟩
  · refine pg_re 5 (L := [pg_inR 6]) (r := some (.inl (g 10 7))) (h0 := g) rfl ⟨by decide, by decide⟩ ?_
    refine ⟨hq1, g, _, ef_, hJ, rfl, fun hz => absurd hz (by decide), fun hz => absurd hz (by decide), fun _ => rfl, fun hz => absurd hz (by decide), fun hz => absurd hz (by decide)⟩
  · refine pg_ca 4 (L := [pg_inR 8]) (Mc := pm_S_shifts) (as := [.inr (.inr 10)]) (h0 := g) (pc := 83) (lv := [(0, .inr (.inr 0)), (1, .inl 8)]) (rest := []) rfl ⟨by decide, by decide⟩ (cs_shifts hBg hRg) ?_
    intro r_1 h_1 e_1; rw [e_1.1, e_1.2]
    refine pg_re 0 (L := []) (r := some (.inl (sy_sh g n))) (h0 := g) rfl trivial ?_
    refine ⟨hq1, g, _, ef_, hJ, rfl, fun hz => absurd hz (by decide), fun hz => absurd hz (by decide), fun hz => absurd hz (by decide), fun _ => rfl, fun hz => absurd hz (by decide)⟩
  · refine pg_ca 4 (L := [pg_inR 9]) (Mc := pm_S_allChanges) (as := [.inr (.inr 10)]) (h0 := g) (pc := 91) (lv := [(0, .inr (.inr 0)), (1, .inl 9)]) (rest := []) rfl ⟨by decide, by decide⟩ (cq_ac hJ) ?_
    intro r_1 g2 e_1; obtain ⟨v_, hv_, er_, ef2_, e10_, hJ2⟩ := e_1; rw [er_]; have hq2 := ci_q1 hq1.1 (pg_fr_tr (pg_fr_rf _ _) ef2_ (by decide)) (fun _ => ⟨e10_, ef2_ 11 (by decide), ef2_ 12 (by decide)⟩) hJ2.1
    refine pg_re 0 (L := []) (r := some (.inl v_)) (h0 := g2) rfl trivial ?_
    refine ⟨⟨hq2.1, hq2.2.1.trans hq1.2.1, hq2.2.2.1.trans hq1.2.2.1, hq2.2.2.2.trans hq1.2.2.2⟩, g, v_, ef_, hJ, rfl, fun hz => absurd hz (by decide), fun hz => absurd hz (by decide), fun hz => absurd hz (by decide), fun hz => absurd hz (by decide), fun _ => hv_⟩
theorem ct_count {h : pg_H} {s n : Int} (hI : ci_I h s n) (w : Int) (hw : pg_inR w) : pg_Sem true pm_P_count [.inr (.inr 0), .inl w] h (fun r h' => ci_Q h h' s n ∧ ∃ z : Int, r = some (.inl z) ∧ (¬ (0 ≤ w ∧ w ≤ 10) → z = -2) ∧ (w = 0 → z = s) ∧ (w = 1 → z = n) ∧ (w = 2 → z = pg_cn (fun c => 0 < h 8 c) 10) ∧ (w = 3 → z = h 20 4) ∧ (w = 7 → cq_J h' s n ∧ sg_D h' s ∧ z = h' 15 10) ∧ (w = 10 → cq_J h' s n ∧ z = pg_cn (fun j => po_F (po_Tn h' s n) j j = -1) (n * n).toNat) ∧ ((w = 4 ∨ w = 5 ∨ w = 6 ∨ w = 8 ∨ w = 9) → ∃ g : pg_H, pg_fr [10, 11, 12] h g ∧ cq_J g s n ∧ (w = 4 → z = g 10 4 * g 10 6) ∧ (w = 5 → z = g 10 7 * sy_sh g n) ∧ (w = 6 → z = g 10 7) ∧ (w = 8 → z = sy_sh g n) ∧ (w = 9 → sy_V g s n z))) := by
  obtain ⟨hQ, hRc, hPo, hSg, hHv, hGn⟩ := id hI
  obtain ⟨hB, hC, hS, -, -⟩ := id hQ
  obtain ⟨hs, ⟨hn1, hn2⟩, e1, e2, e3, e5⟩ := id hB
  have hr := mt_rd_or hs
  obtain ⟨w1, w2⟩ := hw
  refine pg_Sem_of pm_P_count_f rfl ?_
  refine pg_br 1 (L := []) (P := pg_inR w) (c := w < 0) (st1 := (10, [(0, .inr (.inr 0)), (1, .inl w)], [], h)) (st2 := (4, [(0, .inr (.inr 0)), (1, .inl w)], [], h)) rfl trivial ⟨by omega, by omega⟩ (fun c_1_1 => ?_) (fun c_1_1 => ?_)
  · refine pg_re 1 (L := []) (r := some (.inl (-2))) (h0 := h) rfl trivial ?_
    exact ⟨ci_q0 hI, -2, rfl, fun _ => rfl, fun hz => absurd hz (by omega), fun hz => absurd hz (by omega), fun hz => absurd hz (by omega), fun hz => absurd hz (by omega), fun hz => absurd hz (by omega), fun hz => absurd hz (by omega), fun hz => absurd hz (by omega)⟩
  · refine pg_br 2 (L := []) (P := pg_inR w ∧ pg_inR 10) (c := w ≤ 10) (st1 := (13, [(0, .inr (.inr 0)), (1, .inl w)], [], h)) (st2 := (10, [(0, .inr (.inr 0)), (1, .inl w)], [], h)) rfl trivial ⟨⟨by omega, by omega⟩, ⟨by decide, by decide⟩⟩ (fun c_7_2 => ?_) (fun c_7_2 => ?_)
    · have hcs : w = 0 ∨ w = 1 ∨ w = 2 ∨ w = 3 ∨ w = 4 ∨ w = 5 ∨ w = 6 ∨ w = 7 ∨ w = 8 ∨ w = 9 ∨ w = 10 := by omega
      rcases hcs with rfl | rfl | rfl | rfl | rfl | rfl | rfl | rfl | rfl | rfl | rfl
      · refine pg_re 5 (L := [pg_inR 0]) (r := some (.inl (h 4 1))) (h0 := h) rfl ⟨by decide, by decide⟩ ?_
        exact ⟨ci_q0 hI, _, rfl, fun hz => absurd hz (by decide), fun _ => by omega, fun hz => absurd hz (by decide), fun hz => absurd hz (by decide), fun hz => absurd hz (by decide), fun hz => absurd hz (by decide), fun hz => absurd hz (by decide), fun hz => absurd hz (by decide)⟩
      · refine pg_re 5 (L := [pg_inR 1]) (r := some (.inl (h 4 2))) (h0 := h) rfl ⟨by decide, by decide⟩ ?_
        exact ⟨ci_q0 hI, _, rfl, fun hz => absurd hz (by decide), fun hz => absurd hz (by decide), fun _ => by omega, fun hz => absurd hz (by decide), fun hz => absurd hz (by decide), fun hz => absurd hz (by decide), fun hz => absurd hz (by decide), fun hz => absurd hz (by decide)⟩
      · refine pg_ca 4 (L := [pg_inR 2]) (Mc := pm_C_present) (as := [.inr (.inr 6)]) (h0 := h) (pc := 95) (lv := [(0, .inr (.inr 0)), (1, .inl 2)]) (rest := []) rfl ⟨by decide, by decide⟩ (cp_present (cp_S_bd hS (mt_nn hn1 hn2).2.1)) ?_
        intro r_1 h_1 e_1; rw [e_1.1, e_1.2]
        refine pg_re 0 (L := []) (r := some (.inl (pg_cn (fun c => 0 < h 8 c) 10))) (h0 := h) rfl trivial ?_
        exact ⟨ci_q0 hI, _, rfl, fun hz => absurd hz (by decide), fun hz => absurd hz (by decide), fun hz => absurd hz (by decide), fun _ => rfl, fun hz => absurd hz (by decide), fun hz => absurd hz (by decide), fun hz => absurd hz (by decide), fun hz => absurd hz (by decide)⟩
      · refine pg_re 5 (L := [pg_inR 3]) (r := some (.inl (h 20 4))) (h0 := h) rfl ⟨by decide, by decide⟩ ?_
        exact ⟨ci_q0 hI, _, rfl, fun hz => absurd hz (by decide), fun hz => absurd hz (by decide), fun hz => absurd hz (by decide), fun hz => absurd hz (by decide), fun _ => rfl, fun hz => absurd hz (by decide), fun hz => absurd hz (by decide), fun hz => absurd hz (by decide)⟩
      · refine pg_ca 4 (L := [pg_inR 4]) (Mc := pm_P_countMoves) (as := [.inr (.inr 0), .inl 4]) (h0 := h) (pc := 125) (lv := [(0, .inr (.inr 0)), (1, .inl 4)]) (rest := []) rfl ⟨by decide, by decide⟩ (ct_countMoves hI 4 (by decide)) ?_
        intro r_1 g e_1; obtain ⟨hq1, g_, z_, fm_, hJm_, er_, m4, m5, m6, m8, m9⟩ := e_1; rw [er_]
        refine pg_re 0 (L := []) (r := some (.inl z_)) (h0 := g) rfl trivial ?_
        exact ⟨hq1, _, rfl, fun hz => absurd hz (by decide), fun hz => absurd hz (by decide), fun hz => absurd hz (by decide), fun hz => absurd hz (by decide), fun hz => absurd hz (by decide), fun hz => absurd hz (by decide), fun hz => absurd hz (by decide), fun _ => ⟨g_, fm_, hJm_, m4, m5, m6, m8, m9⟩⟩
      · refine pg_ca 4 (L := [pg_inR 5]) (Mc := pm_P_countMoves) (as := [.inr (.inr 0), .inl 5]) (h0 := h) (pc := 125) (lv := [(0, .inr (.inr 0)), (1, .inl 5)]) (rest := []) rfl ⟨by decide, by decide⟩ (ct_countMoves hI 5 (by decide)) ?_
        intro r_1 g e_1; obtain ⟨hq1, g_, z_, fm_, hJm_, er_, m4, m5, m6, m8, m9⟩ := e_1; rw [er_]
        refine pg_re 0 (L := []) (r := some (.inl z_)) (h0 := g) rfl trivial ?_
        exact ⟨hq1, _, rfl, fun hz => absurd hz (by decide), fun hz => absurd hz (by decide), fun hz => absurd hz (by decide), fun hz => absurd hz (by decide), fun hz => absurd hz (by decide), fun hz => absurd hz (by decide), fun hz => absurd hz (by decide), fun _ => ⟨g_, fm_, hJm_, m4, m5, m6, m8, m9⟩⟩
      · refine pg_ca 4 (L := [pg_inR 6]) (Mc := pm_P_countMoves) (as := [.inr (.inr 0), .inl 6]) (h0 := h) (pc := 125) (lv := [(0, .inr (.inr 0)), (1, .inl 6)]) (rest := []) rfl ⟨by decide, by decide⟩ (ct_countMoves hI 6 (by decide)) ?_
        intro r_1 g e_1; obtain ⟨hq1, g_, z_, fm_, hJm_, er_, m4, m5, m6, m8, m9⟩ := e_1; rw [er_]
        refine pg_re 0 (L := []) (r := some (.inl z_)) (h0 := g) rfl trivial ?_
        exact ⟨hq1, _, rfl, fun hz => absurd hz (by decide), fun hz => absurd hz (by decide), fun hz => absurd hz (by decide), fun hz => absurd hz (by decide), fun hz => absurd hz (by decide), fun hz => absurd hz (by decide), fun hz => absurd hz (by decide), fun _ => ⟨g_, fm_, hJm_, m4, m5, m6, m8, m9⟩⟩
      · refine pg_ca 4 (L := [pg_inR 7]) (Mc := pm_G_mostTurns) (as := [.inr (.inr 15)]) (h0 := h) (pc := 111) (lv := [(0, .inr (.inr 0)), (1, .inl 7)]) (rest := []) rfl ⟨by decide, by decide⟩ (sg_most hQ hRc hSg) ?_
        intro r_1 g e_1; obtain ⟨er_, ef_, hJ, hRc2, hD_, hk_, hse⟩ := e_1; rw [er_]
        refine pg_re 0 (L := []) (r := some (.inl (g 15 10))) (h0 := g) rfl trivial ?_
        exact ⟨ci_q3 hI ef_ hse hJ hRc2 hD_ hk_, _, rfl, fun hz => absurd hz (by decide), fun hz => absurd hz (by decide), fun hz => absurd hz (by decide), fun hz => absurd hz (by decide), fun hz => absurd hz (by decide), fun _ => ⟨hJ, hD_, rfl⟩, fun hz => absurd hz (by decide), fun hz => absurd hz (by decide)⟩
      · refine pg_ca 4 (L := [pg_inR 8]) (Mc := pm_P_countMoves) (as := [.inr (.inr 0), .inl 8]) (h0 := h) (pc := 125) (lv := [(0, .inr (.inr 0)), (1, .inl 8)]) (rest := []) rfl ⟨by decide, by decide⟩ (ct_countMoves hI 8 (by decide)) ?_
        intro r_1 g e_1; obtain ⟨hq1, g_, z_, fm_, hJm_, er_, m4, m5, m6, m8, m9⟩ := e_1; rw [er_]
        refine pg_re 0 (L := []) (r := some (.inl z_)) (h0 := g) rfl trivial ?_
        exact ⟨hq1, _, rfl, fun hz => absurd hz (by decide), fun hz => absurd hz (by decide), fun hz => absurd hz (by decide), fun hz => absurd hz (by decide), fun hz => absurd hz (by decide), fun hz => absurd hz (by decide), fun hz => absurd hz (by decide), fun _ => ⟨g_, fm_, hJm_, m4, m5, m6, m8, m9⟩⟩
      · refine pg_ca 4 (L := [pg_inR 9]) (Mc := pm_P_countMoves) (as := [.inr (.inr 0), .inl 9]) (h0 := h) (pc := 125) (lv := [(0, .inr (.inr 0)), (1, .inl 9)]) (rest := []) rfl ⟨by decide, by decide⟩ (ct_countMoves hI 9 (by decide)) ?_
        intro r_1 g e_1; obtain ⟨hq1, g_, z_, fm_, hJm_, er_, m4, m5, m6, m8, m9⟩ := e_1; rw [er_]
        refine pg_re 0 (L := []) (r := some (.inl z_)) (h0 := g) rfl trivial ?_
        exact ⟨hq1, _, rfl, fun hz => absurd hz (by decide), fun hz => absurd hz (by decide), fun hz => absurd hz (by decide), fun hz => absurd hz (by decide), fun hz => absurd hz (by decide), fun hz => absurd hz (by decide), fun hz => absurd hz (by decide), fun _ => ⟨g_, fm_, hJm_, m4, m5, m6, m8, m9⟩⟩
      · refine pg_ca 4 (L := [pg_inR 10]) (Mc := pm_O_total) (as := [.inr (.inr 13)]) (h0 := h) (pc := 119) (lv := [(0, .inr (.inr 0)), (1, .inl 10)]) (rest := []) rfl ⟨by decide, by decide⟩ (po_total hQ hPo) ?_
        intro r_1 g e_1; obtain ⟨z_, er_, ef_, hJ, hD_, hk_, hse, hz_⟩ := e_1; rw [er_]
        refine pg_re 0 (L := []) (r := some (.inl z_)) (h0 := g) rfl trivial ?_
        exact ⟨ci_q2 hI ef_ hse hJ hD_ hk_, _, rfl, fun hz => absurd hz (by decide), fun hz => absurd hz (by decide), fun hz => absurd hz (by decide), fun hz => absurd hz (by decide), fun hz => absurd hz (by decide), fun hz => absurd hz (by decide), fun _ => ⟨hJ, hz_⟩, fun hz => absurd hz (by decide)⟩
    · refine pg_re 1 (L := []) (r := some (.inl (-2))) (h0 := h) rfl trivial ?_
      exact ⟨ci_q0 hI, -2, rfl, fun _ => rfl, fun hz => absurd hz (by omega), fun hz => absurd hz (by omega), fun hz => absurd hz (by omega), fun hz => absurd hz (by omega), fun hz => absurd hz (by omega), fun hz => absurd hz (by omega), fun hz => absurd hz (by omega)⟩
