/-! the reference: is, change, the base, findSymmetries, symmetry -/
def ri_hx (col : Nat → Int) (c : Int) (m : Nat) : Prop := ∃ j : Nat, j < m ∧ col j = c
theorem ri_hx_s {col : Nat → Int} {c : Int} {m : Nat} : ri_hx col c (m + 1) ↔ ri_hx col c m ∨ col m = c := by
  constructor
  · rintro ⟨j, h1, h2⟩
    rcases (show j < m ∨ j = m by omega) with h | rfl
    · exact Or.inl ⟨j, h, h2⟩
    · exact Or.inr h2
  · rintro (⟨j, h1, h2⟩ | h)
    · exact ⟨j, by omega, h2⟩
    · exact ⟨m, by omega, h⟩
/-- a shift of row c, among the first m -/
def ri_rx (col : Nat → Int) (s n c : Int) (m : Nat) : Prop := ∃ b : Nat, b < m ∧ mt_sym col s n 0 ((b : Int) % n) (c % n)
theorem ri_rx_s {col : Nat → Int} {s n c : Int} {m : Nat} : ri_rx col s n c (m + 1) ↔ ri_rx col s n c m ∨ mt_sym col s n 0 ((m : Int) % n) (c % n) := by
  constructor
  · rintro ⟨j, h1, h2⟩
    rcases (show j < m ∨ j = m by omega) with h | rfl
    · exact Or.inl ⟨j, h, h2⟩
    · exact Or.inr h2
  · rintro (⟨j, h1, h2⟩ | h)
    · exact ⟨j, by omega, h2⟩
    · exact ⟨m, by omega, h⟩
theorem mt_x0 (s x y : Int) : mt_x s 0 x y = x ∧ mt_y s 0 x y = y := by
  unfold mt_x mt_y mt_e
  split <;> simp [mt_q, mt_t]
theorem mt_sym_id (col : Nat → Int) (s n : Int) : mt_sym col s n 0 0 0 := by
  intro x y h1 h2 h3 h4
  unfold mt_tg
  rw [(mt_x0 s x y).1, (mt_x0 s x y).2, Int.add_zero, Int.add_zero, Int.emod_eq_of_lt h1 h2, Int.emod_eq_of_lt h3 h4]
def ri_A (col : Nat → Int) (s n z : Int) : Prop := (1 ≤ z ∧ z ≤ n) ∧ mt_sym col s n 0 (z % n) (0 % n) ∧ ∀ j : Int, 1 ≤ j → j < z → ¬ mt_sym col s n 0 (j % n) (0 % n)
def ri_Cc (col : Nat → Int) (s n z : Int) : Prop := (1 ≤ z ∧ z ≤ n) ∧ ri_rx col s n z n.toNat ∧ ∀ j : Int, 1 ≤ j → j < z → ¬ ri_rx col s n j n.toNat
def ri_Bb (col : Nat → Int) (s n c z : Int) : Prop := (0 ≤ z ∧ z < n) ∧ mt_sym col s n 0 (z % n) (c % n) ∧ ∀ j : Int, 0 ≤ j → j < z → ¬ mt_sym col s n 0 (j % n) (c % n)
theorem pg_cn_mono {P : Nat → Prop} {j m : Nat} (h : j ≤ m) : pg_cn P j ≤ pg_cn P m := by
  induction m with
  | zero => rw [show j = 0 by omega]; exact Int.le_refl _
  | succ m ih =>
    rcases (show j ≤ m ∨ j = m + 1 by omega) with h1 | rfl
    · have := ih h1
      have := pg_b_01 (P m)
      simp only [pg_cn]
      omega
    · exact Int.le_refl _
theorem pg_cn_lt2 {P : Nat → Prop} {j m : Nat} (h : j < m) (hP : P j) : pg_cn P j < pg_cn P m := by
  have h1 := pg_cn_mono (P := P) (show j + 1 ≤ m by omega)
  simp only [pg_cn] at h1
  rw [pg_b_t hP] at h1
  omega
theorem pg_cn_ex {P : Nat → Prop} {i : Int} {m : Nat} (h0 : 0 ≤ i) (h : i < pg_cn P m) : ∃ j, j < m ∧ P j ∧ pg_cn P j = i := by
  induction m with
  | zero => simp only [pg_cn] at h; omega
  | succ m ih =>
    by_cases h1 : i < pg_cn P m
    · obtain ⟨j, a, b, c⟩ := ih h1
      exact ⟨j, by omega, b, c⟩
    · simp only [pg_cn] at h
      rcases pg_b_or (P m) with ⟨a, b⟩ | ⟨a, b⟩
      · exact ⟨m, by omega, a, by omega⟩
      · omega
/-- move number m leaves all as it is -/
def mt_sm (col : Nat → Int) (s n : Int) (m : Nat) : Prop := mt_sym col s n ((m : Int) / (n * n)) ((m : Int) / n % n) ((m : Int) % n)
def ri_S (g : pg_H) (s n : Int) : Prop := g 0 6 = pg_cn (mt_sm (g 1) s n) (2 * mt_rd s * (n * n)).toNat ∧ ∀ m : Nat, (m : Int) < 2 * mt_rd s * (n * n) → mt_sm (g 1) s n m → g 3 (pg_cn (mt_sm (g 1) s n) m).toNat = m
def ri_K (g : pg_H) (s n : Int) : Prop := g 0 7 = 0 ∨ (g 0 7 = 1 ∧ ri_S g s n)
theorem ri_S_fr {cs fs : List Nat} {g g' : pg_H} {s n : Int} (hS : ri_S g s n) (hf : rf cs fs g g') (h : 1 ∉ cs ∧ 3 ∉ cs ∧ 6 ∉ fs) : ri_S g' s n := by
  unfold ri_S
  rw [hf.1 1 (by decide) h.1, hf.1 3 (by decide) h.2.1, hf.2 6 h.2.2]
  exact hS
theorem ri_K_fr {cs fs : List Nat} {g g' : pg_H} {s n : Int} (hS : ri_K g s n) (hf : rf cs fs g g') (h : 1 ∉ cs ∧ 3 ∉ cs ∧ 6 ∉ fs ∧ 7 ∉ fs) : ri_K g' s n := by
  unfold ri_K
  rw [hf.2 7 h.2.2.2]
  rcases hS with h1 | h1
  · exact Or.inl h1
  · exact Or.inr ⟨h1.1, ri_S_fr h1.2 hf ⟨h.1, h.2.1, h.2.2.1⟩⟩
theorem mt_2rn {s n : Int} (hs : s = 0 ∨ s = 1) (hn : 1 ≤ n ∧ n ≤ 12) : 1 ≤ 2 * mt_rd s * (n * n) ∧ 2 * mt_rd s * (n * n) ≤ 1728 := by
  have := mt_nn hn.1 hn.2
  rcases mt_rd_or hs with ⟨-, e⟩ | ⟨-, e⟩ <;> rw [e] <;> omega
set_option maxHeartbeats 4000000 in
theorem re_is {g : pg_H} {s n : Int} (hB : rm_B g s n) (hC : ri_C g) (k : Int) (hk : pg_inR k) (u : Int) (hu : pg_inR u) (v : Int) (hv : pg_inR v) : pg_Sem false pm_T_is [.inr (.inr 0), .inl k, .inl u, .inl v] (rm g s n) (fun r h' => r = some (.inl (if 0 ≤ k ∧ k < 2 * mt_rd s then pg_if (mt_sym (g 1) s n k (u % n) (v % n)) 1 (pg_if (mt_chg (g 1) s n k (u % n) (v % n)) 2 0) else -2)) ∧ ∃ g', h' = rm g' s n ∧ rf [13] [15, 16] g g') := by
  obtain ⟨hs, hn, hT⟩ := id hB
  obtain ⟨hn1, hn2⟩ := id hn
  have hr := mt_rd_or hs
  obtain ⟨k1, k2⟩ := hk
  obtain ⟨u1, u2⟩ := hu
  obtain ⟨v1, v2⟩ := hv
  have mu := mt_mod hn1 u
  have mv := mt_mod hn1 v
  refine pg_Sem_of pm_T_is_f rfl ?_
  refine pg_ca 2 (L := []) (Mc := pm_T_isK) (as := [.inr (.inr 0), .inl k]) (h0 := rm g s n) (pc := 5) (lv := [(0, .inr (.inr 0)), (1, .inl k), (2, .inl u), (3, .inl v)]) (rest := []) rfl trivial (re_isK (g := g) (n := n) hs k ⟨by omega, by omega⟩) ?_
  intro r_1 h_1 e_1; rw [e_1.1, e_1.2]
  have hik_2 : ((if 0 ≤ k ∧ k < 2 * mt_rd s then (1 : Int) else 0) = 1 ∧ (0 ≤ k ∧ k < 2 * mt_rd s)) ∨ ((if 0 ≤ k ∧ k < 2 * mt_rd s then (1 : Int) else 0) = 0 ∧ ¬ (0 ≤ k ∧ k < 2 * mt_rd s)) := by split <;> simp_all
  refine pg_br 0 (L := []) (P := pg_inR (if 0 ≤ k ∧ k < 2 * mt_rd s then 1 else 0)) (c := ¬ (if 0 ≤ k ∧ k < 2 * mt_rd s then 1 else 0) = 0) (st1 := (11, [(0, .inr (.inr 0)), (1, .inl k), (2, .inl u), (3, .inl v)], [], rm g s n)) (st2 := (8, [(0, .inr (.inr 0)), (1, .inl k), (2, .inl u), (3, .inl v)], [], rm g s n)) rfl trivial ⟨by omega, by omega⟩ (fun c_5_1 => ?_) (fun c_5_1 => ?_)
  · refine pg_ca 4 (L := [pg_inR u]) (Mc := pm_T_mod) (as := [.inr (.inl u), .inl n]) (h0 := rm g s n) (pc := 20) (lv := [(0, .inr (.inr 0)), (1, .inl k), (2, .inl u), (3, .inl v)]) (rest := []) rfl ⟨by omega, by omega⟩ (re_mod (rm g s n) u n ⟨by omega, by omega⟩ ⟨by omega, by omega⟩) ?_
    intro r_1 h_1 e_1; rw [e_1.1, e_1.2]
    have hm_17 := mt_mod (n := n) (by omega) u
    refine pg_ca 5 (L := [pg_inR v]) (Mc := pm_T_mod) (as := [.inr (.inl v), .inl n]) (h0 := rm g s n) (pc := 31) (lv := [(0, .inr (.inr 0)), (1, .inl k), (2, .inl u), (3, .inl v), (4, .inl (u % n))]) (rest := []) rfl ⟨by omega, by omega⟩ (re_mod (rm g s n) v n ⟨by omega, by omega⟩ ⟨by omega, by omega⟩) ?_
    intro r_1 h_1 e_1; rw [e_1.1, e_1.2]
    have hm_28 := mt_mod (n := n) (by omega) v
    refine pg_ca 5 (L := []) (Mc := pm_T_isSymmetry) (as := [.inr (.inr 0), .inl k, .inl (u % n), .inl (v % n)]) (h0 := rm g s n) (pc := 42) (lv := [(0, .inr (.inr 0)), (1, .inl k), (2, .inl u), (3, .inl v), (4, .inl (u % n)), (5, .inl (v % n))]) (rest := []) rfl trivial (re_isSymmetry (g := g) hB hC k (u % n) (v % n) ⟨by omega, by omega⟩ ⟨by omega, by omega⟩ ⟨by omega, by omega⟩) ?_
    intro r_1 h_1 e_1; obtain ⟨er_, g3, eh_, ef3⟩ := e_1; rw [er_, eh_]; have hB3 := rm_B_fr hB ef3 (by decide); have hC3 := ri_C_fr hC ef3 (by decide); have hb3 := pg_b_or (mt_sym (g 1) s n k (u % n) (v % n)); have e06_3 : g3 0 6 = g 0 6 := ef3.2 6 (by decide)
    refine pg_br 0 (L := []) (P := pg_inR (pg_b (mt_sym (g 1) s n k (u % n) (v % n)))) (c := (pg_b (mt_sym (g 1) s n k (u % n) (v % n))) = 0) (st1 := (49, [(0, .inr (.inr 0)), (1, .inl k), (2, .inl u), (3, .inl v), (4, .inl (u % n)), (5, .inl (v % n))], [], rm g3 s n)) (st2 := (45, [(0, .inr (.inr 0)), (1, .inl k), (2, .inl u), (3, .inl v), (4, .inl (u % n)), (5, .inl (v % n))], [], rm g3 s n)) rfl trivial ⟨by omega, by omega⟩ (fun c_42_2 => ?_) (fun c_42_2 => ?_)
    · refine pg_ca 4 (L := []) (Mc := pm_T_isChange) (as := [.inr (.inr 0), .inl k, .inl (u % n), .inl (v % n)]) (h0 := rm g3 s n) (pc := 58) (lv := [(0, .inr (.inr 0)), (1, .inl k), (2, .inl u), (3, .inl v), (4, .inl (u % n)), (5, .inl (v % n))]) (rest := []) rfl trivial (re_isChange (g := g3) hB3 hC3 k (u % n) (v % n) ⟨by omega, by omega⟩ ⟨by omega, by omega⟩ ⟨by omega, by omega⟩) ?_
      intro r_1 h_1 e_1; obtain ⟨g4, z4, er_, eh_, ef4, ez4⟩ := e_1; rw [er_, eh_]; have hB4 := rm_B_fr hB3 ef4 (by decide); have hC4 := ri_C_fr hC3 ef4 (by decide)
      refine pg_br 0 (L := []) (P := pg_inR z4) (c := z4 = 0) (st1 := (65, [(0, .inr (.inr 0)), (1, .inl k), (2, .inl u), (3, .inl v), (4, .inl (u % n)), (5, .inl (v % n))], [], rm g4 s n)) (st2 := (61, [(0, .inr (.inr 0)), (1, .inl k), (2, .inl u), (3, .inl v), (4, .inl (u % n)), (5, .inl (v % n))], [], rm g4 s n)) rfl trivial ⟨by omega, by omega⟩ (fun c_58_3 => ?_) (fun c_58_3 => ?_)
      · refine pg_re 1 (L := []) (r := some (.inl 0)) (h0 := rm g4 s n) rfl trivial ?_
        refine ⟨?_, _, rfl, ?_⟩
        · rw [if_pos (show 0 ≤ k ∧ k < 2 * mt_rd s by omega)]
          rcases hb3 with ⟨b1, b2⟩ | ⟨b1, b2⟩
          · exfalso; omega
          · rw [pg_if_f b1]
            rw [ef3.1 1 (by decide) (by decide)] at ez4
            rcases ez4 with ⟨d1, d2, -⟩ | ⟨d1, d2⟩
            · first | (exfalso; omega) | rw [pg_if_t d2]
            · first | (exfalso; omega) | rw [pg_if_f d2]
        · exact rf_tr (rf_w ef3 (by decide) (by decide)) ef4 (by decide) (by decide)
      · refine pg_re 2 (L := []) (r := some (.inl 2)) (h0 := rm g4 s n) rfl trivial ?_
        refine ⟨?_, _, rfl, ?_⟩
        · rw [if_pos (show 0 ≤ k ∧ k < 2 * mt_rd s by omega)]
          rcases hb3 with ⟨b1, b2⟩ | ⟨b1, b2⟩
          · exfalso; omega
          · rw [pg_if_f b1]
            rw [ef3.1 1 (by decide) (by decide)] at ez4
            rcases ez4 with ⟨d1, d2, -⟩ | ⟨d1, d2⟩
            · first | (exfalso; omega) | rw [pg_if_t d2]
            · first | (exfalso; omega) | rw [pg_if_f d2]
        · exact rf_tr (rf_w ef3 (by decide) (by decide)) ef4 (by decide) (by decide)
    · refine pg_re 2 (L := []) (r := some (.inl 1)) (h0 := rm g3 s n) rfl trivial ?_
      refine ⟨?_, _, rfl, ?_⟩
      · rw [if_pos (show 0 ≤ k ∧ k < 2 * mt_rd s by omega)]
        rcases hb3 with ⟨b1, b2⟩ | ⟨b1, b2⟩
        · rw [pg_if_t b1]
        · exfalso; omega
      · exact rf_w ef3 (by decide) (by decide)
  · refine pg_re 1 (L := []) (r := some (.inl (-2))) (h0 := rm g s n) rfl trivial ?_
    refine ⟨?_, _, rfl, ?_⟩
    · rw [if_neg (show ¬ (0 ≤ k ∧ k < 2 * mt_rd s) by omega)]
    · exact rf_rf _ _ _
set_option maxHeartbeats 4000000 in
theorem re_change {g : pg_H} {s n : Int} (hB : rm_B g s n) (hC : ri_C g) (k : Int) (hk : pg_inR k) (u : Int) (hu : pg_inR u) (v : Int) (hv : pg_inR v) (c : Int) (hc : pg_inR c) : pg_Sem false pm_T_change [.inr (.inr 0), .inl k, .inl u, .inl v, .inl c] (rm g s n) (fun r h' => ∃ z : Int, r = some (.inl z) ∧ (∃ g', h' = rm g' s n ∧ rf [13] [15, 16] g g') ∧ (¬ ((0 ≤ k ∧ k < 2 * mt_rd s) ∧ 0 ≤ c ∧ c ≤ 9) → z = -2) ∧ ((0 ≤ k ∧ k < 2 * mt_rd s) ∧ 0 ≤ c ∧ c ≤ 9 → (¬ mt_chg (g 1) s n k (u % n) (v % n) → z = -1) ∧ (mt_chg (g 1) s n k (u % n) (v % n) → ∃ im : Nat → Int, mt_img (g 1) s n k (u % n) (v % n) im ∧ z = im c.toNat))) := by
  obtain ⟨hs, hn, hT⟩ := id hB
  obtain ⟨hn1, hn2⟩ := id hn
  have hr := mt_rd_or hs
  obtain ⟨k1, k2⟩ := hk
  obtain ⟨u1, u2⟩ := hu
  obtain ⟨v1, v2⟩ := hv
  obtain ⟨c1, c2⟩ := hc
  have mu := mt_mod hn1 u
  have mv := mt_mod hn1 v
  refine pg_Sem_of pm_T_change_f rfl ?_
  refine pg_ca 2 (L := []) (Mc := pm_T_isK) (as := [.inr (.inr 0), .inl k]) (h0 := rm g s n) (pc := 5) (lv := [(0, .inr (.inr 0)), (1, .inl k), (2, .inl u), (3, .inl v), (4, .inl c)]) (rest := []) rfl trivial (re_isK (g := g) (n := n) hs k ⟨by omega, by omega⟩) ?_
  intro r_1 h_1 e_1; rw [e_1.1, e_1.2]
  have hik_2 : ((if 0 ≤ k ∧ k < 2 * mt_rd s then (1 : Int) else 0) = 1 ∧ (0 ≤ k ∧ k < 2 * mt_rd s)) ∨ ((if 0 ≤ k ∧ k < 2 * mt_rd s then (1 : Int) else 0) = 0 ∧ ¬ (0 ≤ k ∧ k < 2 * mt_rd s)) := by split <;> simp_all
  refine pg_br 0 (L := []) (P := pg_inR (if 0 ≤ k ∧ k < 2 * mt_rd s then 1 else 0)) (c := (if 0 ≤ k ∧ k < 2 * mt_rd s then 1 else 0) = 0) (st1 := (21, [(0, .inr (.inr 0)), (1, .inl k), (2, .inl u), (3, .inl v), (4, .inl c)], [], rm g s n)) (st2 := (8, [(0, .inr (.inr 0)), (1, .inl k), (2, .inl u), (3, .inl v), (4, .inl c)], [], rm g s n)) rfl trivial ⟨by omega, by omega⟩ (fun c_5_1 => ?_) (fun c_5_1 => ?_)
  · refine pg_re 1 (L := []) (r := some (.inl (-2))) (h0 := rm g s n) rfl trivial ?_
    exact ⟨-2, rfl, ⟨_, rfl, rf_rf _ _ _⟩, fun _ => rfl, fun hz => absurd hz (by omega)⟩
  · refine pg_ca 4 (L := [pg_inR c]) (Mc := pm_T_isIn) (as := [.inr (.inl c), .inr (.inl 0), .inr (.inl 9)]) (h0 := rm g s n) (pc := 18) (lv := [(0, .inr (.inr 0)), (1, .inl k), (2, .inl u), (3, .inl v), (4, .inl c)]) (rest := []) rfl ⟨by omega, by omega⟩ (re_isIn (rm g s n) c 0 9 ⟨by omega, by omega⟩ ⟨by omega, by omega⟩ ⟨by omega, by omega⟩) ?_
    intro r_1 h_1 e_1; rw [e_1.1, e_1.2]
    have hin_15 : ((if 0 ≤ c ∧ c ≤ 9 then (1 : Int) else 0) = 1 ∧ (0 ≤ c ∧ c ≤ 9)) ∨ ((if 0 ≤ c ∧ c ≤ 9 then (1 : Int) else 0) = 0 ∧ ¬ (0 ≤ c ∧ c ≤ 9)) := by split <;> simp_all
    refine pg_br 0 (L := []) (P := pg_inR (if 0 ≤ c ∧ c ≤ 9 then 1 else 0)) (c := ¬ (if 0 ≤ c ∧ c ≤ 9 then 1 else 0) = 0) (st1 := (24, [(0, .inr (.inr 0)), (1, .inl k), (2, .inl u), (3, .inl v), (4, .inl c)], [], rm g s n)) (st2 := (21, [(0, .inr (.inr 0)), (1, .inl k), (2, .inl u), (3, .inl v), (4, .inl c)], [], rm g s n)) rfl trivial ⟨by omega, by omega⟩ (fun c_18_2 => ?_) (fun c_18_2 => ?_)
    · refine pg_ca 6 (L := [pg_inR u]) (Mc := pm_T_mod) (as := [.inr (.inl u), .inl n]) (h0 := rm g s n) (pc := 35) (lv := [(0, .inr (.inr 0)), (1, .inl k), (2, .inl u), (3, .inl v), (4, .inl c)]) (rest := [.inl k, .inr (.inr 0)]) rfl ⟨by omega, by omega⟩ (re_mod (rm g s n) u n ⟨by omega, by omega⟩ ⟨by omega, by omega⟩) ?_
      intro r_1 h_1 e_1; rw [e_1.1, e_1.2]
      have hm_32 := mt_mod (n := n) (by omega) u
      refine pg_ca 4 (L := [pg_inR v]) (Mc := pm_T_mod) (as := [.inr (.inl v), .inl n]) (h0 := rm g s n) (pc := 44) (lv := [(0, .inr (.inr 0)), (1, .inl k), (2, .inl u), (3, .inl v), (4, .inl c)]) (rest := [.inl (u % n), .inl k, .inr (.inr 0)]) rfl ⟨by omega, by omega⟩ (re_mod (rm g s n) v n ⟨by omega, by omega⟩ ⟨by omega, by omega⟩) ?_
      intro r_1 h_1 e_1; rw [e_1.1, e_1.2]
      have hm_41 := mt_mod (n := n) (by omega) v
      refine pg_ca 0 (L := []) (Mc := pm_T_isChange) (as := [.inr (.inr 0), .inl k, .inl (u % n), .inl (v % n)]) (h0 := rm g s n) (pc := 47) (lv := [(0, .inr (.inr 0)), (1, .inl k), (2, .inl u), (3, .inl v), (4, .inl c)]) (rest := []) rfl trivial (re_isChange (g := g) hB hC k (u % n) (v % n) ⟨by omega, by omega⟩ ⟨by omega, by omega⟩ ⟨by omega, by omega⟩) ?_
      intro r_1 h_1 e_1; obtain ⟨g5, z5, er_, eh_, ef5, ez5⟩ := e_1; rw [er_, eh_]; have hB5 := rm_B_fr hB ef5 (by decide); have hC5 := ri_C_fr hC ef5 (by decide)
      refine pg_br 0 (L := []) (P := pg_inR z5) (c := z5 = 0) (st1 := (60, [(0, .inr (.inr 0)), (1, .inl k), (2, .inl u), (3, .inl v), (4, .inl c)], [], rm g5 s n)) (st2 := (50, [(0, .inr (.inr 0)), (1, .inl k), (2, .inl u), (3, .inl v), (4, .inl c)], [], rm g5 s n)) rfl trivial ⟨by omega, by omega⟩ (fun c_47_3 => ?_) (fun c_47_3 => ?_)
      · refine pg_re 1 (L := []) (r := some (.inl (-1))) (h0 := rm g5 s n) rfl trivial ?_
        refine ⟨_, rfl, ⟨_, rfl, ef5⟩, fun hz => absurd (show (0 ≤ k ∧ k < 2 * mt_rd s) ∧ 0 ≤ c ∧ c ≤ 9 by omega) hz, fun _ => ?_⟩
        rcases ez5 with ⟨d1, d2, d3⟩ | ⟨d1, d2⟩
        · first | (exfalso; omega) | exact ⟨fun hz => absurd d2 hz, fun _ => ⟨_, d3, rfl⟩⟩
        · first | (exfalso; omega) | exact ⟨fun _ => rfl, fun hz => absurd hz d2⟩
      · refine pg_re 5 (L := [0 ≤ c ∧ c < (10 : Int)]) (r := some (.inl (g5 13 c.toNat))) (h0 := rm g5 s n) rfl ⟨by omega, by omega⟩ ?_
        refine ⟨_, rfl, ⟨_, rfl, ef5⟩, fun hz => absurd (show (0 ≤ k ∧ k < 2 * mt_rd s) ∧ 0 ≤ c ∧ c ≤ 9 by omega) hz, fun _ => ?_⟩
        rcases ez5 with ⟨d1, d2, d3⟩ | ⟨d1, d2⟩
        · first | (exfalso; omega) | exact ⟨fun hz => absurd d2 hz, fun _ => ⟨_, d3, rfl⟩⟩
        · first | (exfalso; omega) | exact ⟨fun _ => rfl, fun hz => absurd hz d2⟩
    · refine pg_re 1 (L := []) (r := some (.inl (-2))) (h0 := rm g s n) rfl trivial ?_
      exact ⟨-2, rfl, ⟨_, rfl, rf_rf _ _ _⟩, fun _ => rfl, fun hz => absurd hz (by omega)⟩
theorem re_hc_l {g : pg_H} {s n : Int} (hB : rm_B g s n) (hC : ri_C g) {c : Int} (hc : 0 ≤ c ∧ c ≤ 9) : ∀ (d : Nat) (f x : Int) (hd : x + (d : Int) = n * n) (hx : 0 ≤ x) (hI : (f = 1 ∧ ri_hx (g 1) c x.toNat) ∨ (f = 0 ∧ ¬ ri_hx (g 1) c x.toNat)), pg_Good false pm_T_hasColour (fun r h' => r = some (.inl (pg_b (ri_hx (g 1) c (n * n).toNat))) ∧ h' = rm g s n) (4, [(0, .inr (.inr 0)), (1, .inl c), (2, .inl f), (3, .inl x)], [], rm g s n) := by
  intro d
  induction d with
  | zero =>
    intro f x hd hx hI
    obtain ⟨hs, hn, hT⟩ := id hB
    obtain ⟨hn1, hn2⟩ := id hn
    have hr := mt_rd_or hs
    have hnn := mt_nn hn1 hn2
    refine pg_br 6 (L := []) (P := pg_inR x ∧ pg_inR (n * n)) (c := (n * n) ≤ x) (st1 := (43, [(0, .inr (.inr 0)), (1, .inl c), (2, .inl f), (3, .inl x)], [], rm g s n)) (st2 := (17, [(0, .inr (.inr 0)), (1, .inl c), (2, .inl f), (3, .inl x)], [], rm g s n)) rfl trivial ⟨⟨by omega, by omega⟩, ⟨by omega, by omega⟩⟩ (fun c_14_1 => ?_) (fun c_14_1 => ?_)
    · refine pg_re 1 (L := [f = 0 ∨ f = 1]) (r := some (.inl f)) (h0 := rm g s n) rfl (by (show _ ∨ _); omega) ?_
      rw [show n * n = x by omega]
      rcases hI with h1 | h1
      · exact ⟨by rw [h1.1, pg_b_t h1.2], rfl⟩
      · exact ⟨by rw [h1.1, pg_b_f h1.2], rfl⟩
    · exact (by exfalso; omega)
  | succ d ih =>
    intro f x hd hx hI
    obtain ⟨hs, hn, hT⟩ := id hB
    obtain ⟨hn1, hn2⟩ := id hn
    have hr := mt_rd_or hs
    have hnn := mt_nn hn1 hn2
    have hcx := hC x.toNat (by omega)
    have ek : (x + 1).toNat = x.toNat + 1 := by omega
    refine pg_br 6 (L := []) (P := pg_inR x ∧ pg_inR (n * n)) (c := (n * n) ≤ x) (st1 := (43, [(0, .inr (.inr 0)), (1, .inl c), (2, .inl f), (3, .inl x)], [], rm g s n)) (st2 := (17, [(0, .inr (.inr 0)), (1, .inl c), (2, .inl f), (3, .inl x)], [], rm g s n)) rfl trivial ⟨⟨by omega, by omega⟩, ⟨by omega, by omega⟩⟩ (fun c_14_2 => ?_) (fun c_14_2 => ?_)
    · exact (by exfalso; omega)
    · refine pg_br 1 (L := []) (P := pg_inR f) (c := ¬ f = 0) (st1 := (31, [(0, .inr (.inr 0)), (1, .inl c), (2, .inl f), (3, .inl x)], [], rm g s n)) (st2 := (21, [(0, .inr (.inr 0)), (1, .inl c), (2, .inl f), (3, .inl x)], [], rm g s n)) rfl trivial ⟨by omega, by omega⟩ (fun c_18_3 => ?_) (fun c_18_3 => ?_)
      · refine pg_go 5 (L := []) (st' := (4, [(0, .inr (.inr 0)), (1, .inl c), (2, .inl 1), (3, .inl (x + 1))], [], rm g s n)) rfl trivial ?_
        refine ih _ _ (by omega) (by omega) ?_
        rw [ek, ri_hx_s]
        refine Or.inl ⟨rfl, ?_⟩
        rcases hI with h1 | h1
        · exact Or.inl h1.2
        · first | (exfalso; omega) | exact Or.inr (by omega)
      · refine pg_br 5 (L := [0 ≤ x ∧ x < (144 : Int)]) (P := pg_inR (g 1 x.toNat) ∧ pg_inR c) (c := ¬ (g 1 x.toNat) = c) (st1 := (35, [(0, .inr (.inr 0)), (1, .inl c), (2, .inl f), (3, .inl x)], [], rm g s n)) (st2 := (31, [(0, .inr (.inr 0)), (1, .inl c), (2, .inl f), (3, .inl x)], [], rm g s n)) rfl ⟨by omega, by omega⟩ ⟨⟨by omega, by omega⟩, ⟨by omega, by omega⟩⟩ (fun c_28_4 => ?_) (fun c_28_4 => ?_)
        · refine pg_go 4 (L := []) (st' := (4, [(0, .inr (.inr 0)), (1, .inl c), (2, .inl 0), (3, .inl (x + 1))], [], rm g s n)) rfl trivial ?_
          refine ih _ _ (by omega) (by omega) ?_
          rw [ek, ri_hx_s]
          refine Or.inr ⟨rfl, ?_⟩
          rcases hI with h1 | h1
          · exfalso; omega
          · rintro (h2 | h2)
            · exact h1.2 h2
            · omega
        · refine pg_go 5 (L := []) (st' := (4, [(0, .inr (.inr 0)), (1, .inl c), (2, .inl 1), (3, .inl (x + 1))], [], rm g s n)) rfl trivial ?_
          refine ih _ _ (by omega) (by omega) ?_
          rw [ek, ri_hx_s]
          refine Or.inl ⟨rfl, ?_⟩
          rcases hI with h1 | h1
          · exact Or.inl h1.2
          · first | (exfalso; omega) | exact Or.inr (by omega)
theorem re_hasColour {g : pg_H} {s n : Int} (hB : rm_B g s n) (hC : ri_C g) (c : Int) (hc : 0 ≤ c ∧ c ≤ 9) : pg_Sem false pm_T_hasColour [.inr (.inr 0), .inl c] (rm g s n) (fun r h' => r = some (.inl (pg_b (ri_hx (g 1) c (n * n).toNat))) ∧ h' = rm g s n) := by
  obtain ⟨hs, hn, hT⟩ := id hB
  obtain ⟨hn1, hn2⟩ := id hn
  have hr := mt_rd_or hs
  have hnn := mt_nn hn1 hn2
  refine pg_Sem_of pm_T_hasColour_f rfl ?_
  refine pg_go 4 (L := []) (st' := (4, [(0, .inr (.inr 0)), (1, .inl c), (2, .inl 0), (3, .inl 0)], [], rm g s n)) rfl trivial ?_
  exact re_hc_l hB hC hc (n * n).toNat 0 0 (by omega) (by omega) (Or.inr ⟨rfl, fun ⟨j, h, _⟩ => absurd h (by omega)⟩)
theorem re_isShift {g : pg_H} {s n : Int} (hB : rm_B g s n) (hC : ri_C g) (u : Int) (hu : pg_inR u) (v : Int) (hv : pg_inR v) : pg_Sem false pm_T_isShift [.inr (.inr 0), .inl u, .inl v] (rm g s n) (fun r h' => r = some (.inl (pg_b (mt_sym (g 1) s n 0 (u % n) (v % n)))) ∧ ∃ g', h' = rm g' s n ∧ rf [] [15, 16] g g') := by
  obtain ⟨hs, hn, hT⟩ := id hB
  obtain ⟨hn1, hn2⟩ := id hn
  have hr := mt_rd_or hs
  obtain ⟨u1, u2⟩ := hu
  obtain ⟨v1, v2⟩ := hv
  have mu := mt_mod hn1 u
  have mv := mt_mod hn1 v
  have h01 := pg_b_01 (mt_sym (g 1) s n 0 (u % n) (v % n))
  refine pg_Sem_of pm_T_isShift_f rfl ?_
  refine pg_ca 6 (L := [pg_inR u]) (Mc := pm_T_mod) (as := [.inr (.inl u), .inl n]) (h0 := rm g s n) (pc := 11) (lv := [(0, .inr (.inr 0)), (1, .inl u), (2, .inl v)]) (rest := [.inl 0, .inr (.inr 0)]) rfl ⟨by omega, by omega⟩ (re_mod (rm g s n) u n ⟨by omega, by omega⟩ ⟨by omega, by omega⟩) ?_
  intro r_1 h_1 e_1; rw [e_1.1, e_1.2]
  have hm_8 := mt_mod (n := n) (by omega) u
  refine pg_ca 4 (L := [pg_inR v]) (Mc := pm_T_mod) (as := [.inr (.inl v), .inl n]) (h0 := rm g s n) (pc := 20) (lv := [(0, .inr (.inr 0)), (1, .inl u), (2, .inl v)]) (rest := [.inl (u % n), .inl 0, .inr (.inr 0)]) rfl ⟨by omega, by omega⟩ (re_mod (rm g s n) v n ⟨by omega, by omega⟩ ⟨by omega, by omega⟩) ?_
  intro r_1 h_1 e_1; rw [e_1.1, e_1.2]
  have hm_17 := mt_mod (n := n) (by omega) v
  refine pg_ca 0 (L := []) (Mc := pm_T_isSymmetry) (as := [.inr (.inr 0), .inl 0, .inl (u % n), .inl (v % n)]) (h0 := rm g s n) (pc := 23) (lv := [(0, .inr (.inr 0)), (1, .inl u), (2, .inl v)]) (rest := []) rfl trivial (re_isSymmetry (g := g) hB hC 0 (u % n) (v % n) ⟨by omega, by omega⟩ ⟨by omega, by omega⟩ ⟨by omega, by omega⟩) ?_
  intro r_1 h_1 e_1; obtain ⟨er_, g6, eh_, ef6⟩ := e_1; rw [er_, eh_]; have hB6 := rm_B_fr hB ef6 (by decide); have hC6 := ri_C_fr hC ef6 (by decide); have hb6 := pg_b_or (mt_sym (g 1) s n 0 (u % n) (v % n)); have e06_6 : g6 0 6 = g 0 6 := ef6.2 6 (by decide)
  refine pg_re 0 (L := [(pg_b (mt_sym (g 1) s n 0 (u % n) (v % n))) = 0 ∨ (pg_b (mt_sym (g 1) s n 0 (u % n) (v % n))) = 1]) (r := some (.inl (pg_b (mt_sym (g 1) s n 0 (u % n) (v % n))))) (h0 := rm g6 s n) rfl (by (show _ ∨ _); omega) ?_
  exact ⟨rfl, _, rfl, ef6⟩
theorem re_hr_l {g0 : pg_H} {s n : Int} (hB0 : rm_B g0 s n) (hC0 : ri_C g0) {c : Int} (hc : pg_inR c) : ∀ (d : Nat) (g : pg_H) (f x : Int) (hd : x + (d : Int) = n) (hx : 0 ≤ x) (hf : rf [] [15, 16] g0 g) (hI : (f = 1 ∧ ri_rx (g0 1) s n c x.toNat) ∨ (f = 0 ∧ ¬ ri_rx (g0 1) s n c x.toNat)), pg_Good false pm_T_hasRow (fun r h' => r = some (.inl (pg_b (ri_rx (g0 1) s n c n.toNat))) ∧ ∃ g', h' = rm g' s n ∧ rf [] [15, 16] g0 g') (4, [(0, .inr (.inr 0)), (1, .inl c), (2, .inl f), (3, .inl x)], [], rm g s n) := by
  intro d
  induction d with
  | zero =>
    intro g f x hd hx hf hI
    have hB := rm_B_fr hB0 hf (by decide)
    have hC := ri_C_fr hC0 hf (by decide)
    obtain ⟨hs, hn, -⟩ := id hB
    obtain ⟨hn1, hn2⟩ := id hn
    have hr := mt_rd_or hs
    have e1 : g 1 = g0 1 := hf.1 1 (by decide) (by decide)
    obtain ⟨c1, c2⟩ := hc
    refine pg_br 3 (L := []) (P := pg_inR x ∧ pg_inR n) (c := n ≤ x) (st1 := (37, [(0, .inr (.inr 0)), (1, .inl c), (2, .inl f), (3, .inl x)], [], rm g s n)) (st2 := (12, [(0, .inr (.inr 0)), (1, .inl c), (2, .inl f), (3, .inl x)], [], rm g s n)) rfl trivial ⟨⟨by omega, by omega⟩, ⟨by omega, by omega⟩⟩ (fun c_9_1 => ?_) (fun c_9_1 => ?_)
    · refine pg_re 1 (L := [f = 0 ∨ f = 1]) (r := some (.inl f)) (h0 := rm g s n) rfl (by (show _ ∨ _); omega) ?_
      have exn : x.toNat = n.toNat := by omega
      rw [exn] at hI
      rcases hI with h1 | h1
      · exact ⟨by rw [h1.1, pg_b_t h1.2], g, rfl, hf⟩
      · exact ⟨by rw [h1.1, pg_b_f h1.2], g, rfl, hf⟩
    · exact (by exfalso; omega)
  | succ d ih =>
    intro g f x hd hx hf hI
    have hB := rm_B_fr hB0 hf (by decide)
    have hC := ri_C_fr hC0 hf (by decide)
    obtain ⟨hs, hn, -⟩ := id hB
    obtain ⟨hn1, hn2⟩ := id hn
    have hr := mt_rd_or hs
    have e1 : g 1 = g0 1 := hf.1 1 (by decide) (by decide)
    obtain ⟨c1, c2⟩ := hc
    have ek : (x + 1).toNat = x.toNat + 1 := by omega
    have ex : ((x.toNat : Nat) : Int) = x := by omega
    refine pg_br 3 (L := []) (P := pg_inR x ∧ pg_inR n) (c := n ≤ x) (st1 := (37, [(0, .inr (.inr 0)), (1, .inl c), (2, .inl f), (3, .inl x)], [], rm g s n)) (st2 := (12, [(0, .inr (.inr 0)), (1, .inl c), (2, .inl f), (3, .inl x)], [], rm g s n)) rfl trivial ⟨⟨by omega, by omega⟩, ⟨by omega, by omega⟩⟩ (fun c_9_2 => ?_) (fun c_9_2 => ?_)
    · exact (by exfalso; omega)
    · refine pg_br 1 (L := []) (P := pg_inR f) (c := ¬ f = 0) (st1 := (25, [(0, .inr (.inr 0)), (1, .inl c), (2, .inl f), (3, .inl x)], [], rm g s n)) (st2 := (16, [(0, .inr (.inr 0)), (1, .inl c), (2, .inl f), (3, .inl x)], [], rm g s n)) rfl trivial ⟨by omega, by omega⟩ (fun c_13_3 => ?_) (fun c_13_3 => ?_)
      · refine pg_go 5 (L := []) (st' := (4, [(0, .inr (.inr 0)), (1, .inl c), (2, .inl 1), (3, .inl (x + 1))], [], rm g s n)) rfl trivial ?_
        refine ih _ _ _ (by omega) (by omega) hf ?_
        rw [ek, ri_rx_s, ex]
        refine Or.inl ⟨rfl, ?_⟩
        rcases hI with h1 | h1
        · exact Or.inl h1.2
        · first | (exfalso; omega) | (rcases hbx with h2 | h2; (· exact Or.inr h2.1); (· exfalso; omega))
      · refine pg_ca 3 (L := []) (Mc := pm_T_isShift) (as := [.inr (.inr 0), .inl x, .inl c]) (h0 := rm g s n) (pc := 22) (lv := [(0, .inr (.inr 0)), (1, .inl c), (2, .inl f), (3, .inl x)]) (rest := []) rfl trivial (re_isShift (g := g) hB hC x ⟨by omega, by omega⟩ c ⟨by omega, by omega⟩) ?_
        intro r_1 h_1 e_1; obtain ⟨er_, g7, eh_, ef7⟩ := e_1; rw [e1] at er_; rw [er_, eh_]; have hB7 := rm_B_fr hB ef7 (by decide); have hC7 := ri_C_fr hC ef7 (by decide); have hbx := pg_b_or (mt_sym (g0 1) s n 0 (x % n) (c % n))
        refine pg_br 0 (L := []) (P := pg_inR (pg_b (mt_sym (g0 1) s n 0 (x % n) (c % n)))) (c := (pg_b (mt_sym (g0 1) s n 0 (x % n) (c % n))) = 0) (st1 := (29, [(0, .inr (.inr 0)), (1, .inl c), (2, .inl f), (3, .inl x)], [], rm g7 s n)) (st2 := (25, [(0, .inr (.inr 0)), (1, .inl c), (2, .inl f), (3, .inl x)], [], rm g7 s n)) rfl trivial ⟨by omega, by omega⟩ (fun c_22_4 => ?_) (fun c_22_4 => ?_)
        · refine pg_go 4 (L := []) (st' := (4, [(0, .inr (.inr 0)), (1, .inl c), (2, .inl 0), (3, .inl (x + 1))], [], rm g7 s n)) rfl trivial ?_
          refine ih _ _ _ (by omega) (by omega) (rf_tr hf ef7 (by decide) (by decide)) ?_
          rw [ek, ri_rx_s, ex]
          refine Or.inr ⟨rfl, ?_⟩
          rcases hI with h1 | h1
          · exfalso; omega
          · rintro (h2 | h2)
            · exact h1.2 h2
            · rcases hbx with h3 | h3
              · omega
              · exact h3.1 h2
        · refine pg_go 5 (L := []) (st' := (4, [(0, .inr (.inr 0)), (1, .inl c), (2, .inl 1), (3, .inl (x + 1))], [], rm g7 s n)) rfl trivial ?_
          refine ih _ _ _ (by omega) (by omega) (rf_tr hf ef7 (by decide) (by decide)) ?_
          rw [ek, ri_rx_s, ex]
          refine Or.inl ⟨rfl, ?_⟩
          rcases hI with h1 | h1
          · exact Or.inl h1.2
          · first | (exfalso; omega) | (rcases hbx with h2 | h2; (· exact Or.inr h2.1); (· exfalso; omega))
theorem re_hasRow {g : pg_H} {s n : Int} (hB : rm_B g s n) (hC : ri_C g) (c : Int) (hc : pg_inR c) : pg_Sem false pm_T_hasRow [.inr (.inr 0), .inl c] (rm g s n) (fun r h' => r = some (.inl (pg_b (ri_rx (g 1) s n c n.toNat))) ∧ ∃ g', h' = rm g' s n ∧ rf [] [15, 16] g g') := by
  obtain ⟨hs, hn, hT⟩ := id hB
  obtain ⟨hn1, hn2⟩ := id hn
  have hr := mt_rd_or hs
  refine pg_Sem_of pm_T_hasRow_f rfl ?_
  refine pg_go 4 (L := []) (st' := (4, [(0, .inr (.inr 0)), (1, .inl c), (2, .inl 0), (3, .inl 0)], [], rm g s n)) rfl trivial ?_
  exact re_hr_l hB hC hc n.toNat g 0 0 (by omega) (by omega) (rf_rf _ _ _) (Or.inr ⟨rfl, fun ⟨j, h, _⟩ => absurd h (by omega)⟩)
theorem re_bA_l {g0 : pg_H} {s n : Int} (hB0 : rm_B g0 s n) (hC0 : ri_C g0) : ∀ (d : Nat) (g : pg_H) (a : Int) (hd : a + (d : Int) = n) (ha : 1 ≤ a) (hf : rf [] [15, 16] g0 g) (hI : ∀ j : Int, 1 ≤ j → j < a → ¬ mt_sym (g0 1) s n 0 (j % n) (0 % n)), pg_Good false pm_T_baseA (fun r h' => ∃ z : Int, r = some (.inl z) ∧ (ri_A (g0 1) s n z) ∧ ∃ g', h' = rm g' s n ∧ rf [] [15, 16] g0 g') (2, [(0, .inr (.inr 0)), (1, .inl a)], [], rm g s n) := by
  intro d
  induction d with
  | zero =>
    intro g a hd ha hf hI
    have hB := rm_B_fr hB0 hf (by decide)
    have hC := ri_C_fr hC0 hf (by decide)
    obtain ⟨hs, hn, -⟩ := id hB
    obtain ⟨hn1, hn2⟩ := id hn
    have hr := mt_rd_or hs
    have e1 : g 1 = g0 1 := hf.1 1 (by decide) (by decide)
    refine pg_ca 3 (L := []) (Mc := pm_T_isShift) (as := [.inr (.inr 0), .inl a, .inl 0]) (h0 := rm g s n) (pc := 8) (lv := [(0, .inr (.inr 0)), (1, .inl a)]) (rest := []) rfl trivial (re_isShift (g := g) hB hC a ⟨by omega, by omega⟩ 0 ⟨by omega, by omega⟩) ?_
    intro r_1 h_1 e_1; obtain ⟨er_, g8, eh_, ef8⟩ := e_1; rw [e1] at er_; rw [er_, eh_]; have hB8 := rm_B_fr hB ef8 (by decide); have hC8 := ri_C_fr hC ef8 (by decide); have hbx := pg_b_or (mt_sym (g0 1) s n 0 (a % n) (0 % n))
    refine pg_br 0 (L := []) (P := pg_inR (pg_b (mt_sym (g0 1) s n 0 (a % n) (0 % n)))) (c := ¬ (pg_b (mt_sym (g0 1) s n 0 (a % n) (0 % n))) = 0) (st1 := (17, [(0, .inr (.inr 0)), (1, .inl a)], [], rm g8 s n)) (st2 := (11, [(0, .inr (.inr 0)), (1, .inl a)], [], rm g8 s n)) rfl trivial ⟨by omega, by omega⟩ (fun c_8_1 => ?_) (fun c_8_1 => ?_)
    · refine pg_re 1 (L := []) (r := some (.inl a)) (h0 := rm g8 s n) rfl trivial ?_
      refine ⟨a, rfl, ⟨⟨by omega, by omega⟩, ?_, hI⟩, _, rfl, rf_tr hf ef8 (by decide) (by decide)⟩
      rcases hbx with h1 | h1
      · exact h1.1
      · exfalso; omega
    · refine pg_go 2 (L := []) (st' := (2, [(0, .inr (.inr 0)), (1, .inl (a + 1))], [], rm g8 s n)) rfl trivial ?_
      exfalso
      have hz := hbx
      rcases hz with h1 | h1
      · omega
      · apply h1.1
        rw [show a = n by omega, Int.emod_self, Int.zero_emod]
        exact mt_sym_id _ _ _
  | succ d ih =>
    intro g a hd ha hf hI
    have hB := rm_B_fr hB0 hf (by decide)
    have hC := ri_C_fr hC0 hf (by decide)
    obtain ⟨hs, hn, -⟩ := id hB
    obtain ⟨hn1, hn2⟩ := id hn
    have hr := mt_rd_or hs
    have e1 : g 1 = g0 1 := hf.1 1 (by decide) (by decide)
    refine pg_ca 3 (L := []) (Mc := pm_T_isShift) (as := [.inr (.inr 0), .inl a, .inl 0]) (h0 := rm g s n) (pc := 8) (lv := [(0, .inr (.inr 0)), (1, .inl a)]) (rest := []) rfl trivial (re_isShift (g := g) hB hC a ⟨by omega, by omega⟩ 0 ⟨by omega, by omega⟩) ?_
    intro r_1 h_1 e_1; obtain ⟨er_, g9, eh_, ef9⟩ := e_1; rw [e1] at er_; rw [er_, eh_]; have hB9 := rm_B_fr hB ef9 (by decide); have hC9 := ri_C_fr hC ef9 (by decide); have hbx := pg_b_or (mt_sym (g0 1) s n 0 (a % n) (0 % n))
    refine pg_br 0 (L := []) (P := pg_inR (pg_b (mt_sym (g0 1) s n 0 (a % n) (0 % n)))) (c := ¬ (pg_b (mt_sym (g0 1) s n 0 (a % n) (0 % n))) = 0) (st1 := (17, [(0, .inr (.inr 0)), (1, .inl a)], [], rm g9 s n)) (st2 := (11, [(0, .inr (.inr 0)), (1, .inl a)], [], rm g9 s n)) rfl trivial ⟨by omega, by omega⟩ (fun c_8_2 => ?_) (fun c_8_2 => ?_)
    · refine pg_re 1 (L := []) (r := some (.inl a)) (h0 := rm g9 s n) rfl trivial ?_
      refine ⟨a, rfl, ⟨⟨by omega, by omega⟩, ?_, hI⟩, _, rfl, rf_tr hf ef9 (by decide) (by decide)⟩
      rcases hbx with h1 | h1
      · exact h1.1
      · exfalso; omega
    · refine pg_go 2 (L := []) (st' := (2, [(0, .inr (.inr 0)), (1, .inl (a + 1))], [], rm g9 s n)) rfl trivial ?_
      refine ih _ _ (by omega) (by omega) (rf_tr hf ef9 (by decide) (by decide)) (fun j h1 h2 => ?_)
      rcases (show j < a ∨ j = a by omega) with h3 | rfl
      · exact hI j h1 h3
      · rcases hbx with h4 | h4
        · omega
        · exact h4.1
theorem re_baseA {g : pg_H} {s n : Int} (hB : rm_B g s n) (hC : ri_C g) : pg_Sem false pm_T_baseA [.inr (.inr 0)] (rm g s n) (fun r h' => ∃ z : Int, r = some (.inl z) ∧ (ri_A (g 1) s n z) ∧ ∃ g', h' = rm g' s n ∧ rf [] [15, 16] g g') := by
  obtain ⟨hs, hn, hT⟩ := id hB
  obtain ⟨hn1, hn2⟩ := id hn
  have hr := mt_rd_or hs
  refine pg_Sem_of pm_T_baseA_f rfl ?_
  refine pg_go 2 (L := []) (st' := (2, [(0, .inr (.inr 0)), (1, .inl 1)], [], rm g s n)) rfl trivial ?_
  exact re_bA_l hB hC (n - 1).toNat g 1 (by omega) (by omega) (rf_rf _ _ _) (fun j h1 h2 => by omega)
theorem re_bC_l {g0 : pg_H} {s n : Int} (hB0 : rm_B g0 s n) (hC0 : ri_C g0) : ∀ (d : Nat) (g : pg_H) (a : Int) (hd : a + (d : Int) = n) (ha : 1 ≤ a) (hf : rf [] [15, 16] g0 g) (hI : ∀ j : Int, 1 ≤ j → j < a → ¬ ri_rx (g0 1) s n j n.toNat), pg_Good false pm_T_baseC (fun r h' => ∃ z : Int, r = some (.inl z) ∧ (ri_Cc (g0 1) s n z) ∧ ∃ g', h' = rm g' s n ∧ rf [] [15, 16] g0 g') (2, [(0, .inr (.inr 0)), (1, .inl a)], [], rm g s n) := by
  intro d
  induction d with
  | zero =>
    intro g a hd ha hf hI
    have hB := rm_B_fr hB0 hf (by decide)
    have hC := ri_C_fr hC0 hf (by decide)
    obtain ⟨hs, hn, -⟩ := id hB
    obtain ⟨hn1, hn2⟩ := id hn
    have hr := mt_rd_or hs
    have e1 : g 1 = g0 1 := hf.1 1 (by decide) (by decide)
    refine pg_ca 2 (L := []) (Mc := pm_T_hasRow) (as := [.inr (.inr 0), .inl a]) (h0 := rm g s n) (pc := 7) (lv := [(0, .inr (.inr 0)), (1, .inl a)]) (rest := []) rfl trivial (re_hasRow (g := g) hB hC a ⟨by omega, by omega⟩) ?_
    intro r_1 h_1 e_1; obtain ⟨er_, g10, eh_, ef10⟩ := e_1; rw [e1] at er_; rw [er_, eh_]; have hB10 := rm_B_fr hB ef10 (by decide); have hC10 := ri_C_fr hC ef10 (by decide); have hbx := pg_b_or (ri_rx (g0 1) s n a n.toNat)
    refine pg_br 0 (L := []) (P := pg_inR (pg_b (ri_rx (g0 1) s n a n.toNat))) (c := ¬ (pg_b (ri_rx (g0 1) s n a n.toNat)) = 0) (st1 := (16, [(0, .inr (.inr 0)), (1, .inl a)], [], rm g10 s n)) (st2 := (10, [(0, .inr (.inr 0)), (1, .inl a)], [], rm g10 s n)) rfl trivial ⟨by omega, by omega⟩ (fun c_7_1 => ?_) (fun c_7_1 => ?_)
    · refine pg_re 1 (L := []) (r := some (.inl a)) (h0 := rm g10 s n) rfl trivial ?_
      refine ⟨a, rfl, ⟨⟨by omega, by omega⟩, ?_, hI⟩, _, rfl, rf_tr hf ef10 (by decide) (by decide)⟩
      rcases hbx with h1 | h1
      · exact h1.1
      · exfalso; omega
    · refine pg_go 2 (L := []) (st' := (2, [(0, .inr (.inr 0)), (1, .inl (a + 1))], [], rm g10 s n)) rfl trivial ?_
      exfalso
      have hz := hbx
      rcases hz with h1 | h1
      · omega
      · apply h1.1
        refine ⟨0, by omega, ?_⟩
        rw [show a = n by omega, Int.emod_self]
        exact mt_sym_id _ _ _
  | succ d ih =>
    intro g a hd ha hf hI
    have hB := rm_B_fr hB0 hf (by decide)
    have hC := ri_C_fr hC0 hf (by decide)
    obtain ⟨hs, hn, -⟩ := id hB
    obtain ⟨hn1, hn2⟩ := id hn
    have hr := mt_rd_or hs
    have e1 : g 1 = g0 1 := hf.1 1 (by decide) (by decide)
    refine pg_ca 2 (L := []) (Mc := pm_T_hasRow) (as := [.inr (.inr 0), .inl a]) (h0 := rm g s n) (pc := 7) (lv := [(0, .inr (.inr 0)), (1, .inl a)]) (rest := []) rfl trivial (re_hasRow (g := g) hB hC a ⟨by omega, by omega⟩) ?_
    intro r_1 h_1 e_1; obtain ⟨er_, g11, eh_, ef11⟩ := e_1; rw [e1] at er_; rw [er_, eh_]; have hB11 := rm_B_fr hB ef11 (by decide); have hC11 := ri_C_fr hC ef11 (by decide); have hbx := pg_b_or (ri_rx (g0 1) s n a n.toNat)
    refine pg_br 0 (L := []) (P := pg_inR (pg_b (ri_rx (g0 1) s n a n.toNat))) (c := ¬ (pg_b (ri_rx (g0 1) s n a n.toNat)) = 0) (st1 := (16, [(0, .inr (.inr 0)), (1, .inl a)], [], rm g11 s n)) (st2 := (10, [(0, .inr (.inr 0)), (1, .inl a)], [], rm g11 s n)) rfl trivial ⟨by omega, by omega⟩ (fun c_7_2 => ?_) (fun c_7_2 => ?_)
    · refine pg_re 1 (L := []) (r := some (.inl a)) (h0 := rm g11 s n) rfl trivial ?_
      refine ⟨a, rfl, ⟨⟨by omega, by omega⟩, ?_, hI⟩, _, rfl, rf_tr hf ef11 (by decide) (by decide)⟩
      rcases hbx with h1 | h1
      · exact h1.1
      · exfalso; omega
    · refine pg_go 2 (L := []) (st' := (2, [(0, .inr (.inr 0)), (1, .inl (a + 1))], [], rm g11 s n)) rfl trivial ?_
      refine ih _ _ (by omega) (by omega) (rf_tr hf ef11 (by decide) (by decide)) (fun j h1 h2 => ?_)
      rcases (show j < a ∨ j = a by omega) with h3 | rfl
      · exact hI j h1 h3
      · rcases hbx with h4 | h4
        · omega
        · exact h4.1
theorem re_baseC {g : pg_H} {s n : Int} (hB : rm_B g s n) (hC : ri_C g) : pg_Sem false pm_T_baseC [.inr (.inr 0)] (rm g s n) (fun r h' => ∃ z : Int, r = some (.inl z) ∧ (ri_Cc (g 1) s n z) ∧ ∃ g', h' = rm g' s n ∧ rf [] [15, 16] g g') := by
  obtain ⟨hs, hn, hT⟩ := id hB
  obtain ⟨hn1, hn2⟩ := id hn
  have hr := mt_rd_or hs
  refine pg_Sem_of pm_T_baseC_f rfl ?_
  refine pg_go 2 (L := []) (st' := (2, [(0, .inr (.inr 0)), (1, .inl 1)], [], rm g s n)) rfl trivial ?_
  exact re_bC_l hB hC (n - 1).toNat g 1 (by omega) (by omega) (rf_rf _ _ _) (fun j h1 h2 => by omega)
theorem re_bB_l {g0 : pg_H} {s n : Int} (hB0 : rm_B g0 s n) (hC0 : ri_C g0) {c : Int} (hc : 1 ≤ c ∧ c ≤ n) (hrx : ri_rx (g0 1) s n c n.toNat) : ∀ (d : Nat) (g : pg_H) (a : Int) (hd : a + (d : Int) = n - 1) (ha : 0 ≤ a) (hf : rf [] [15, 16] g0 g) (hI : ∀ j : Int, 0 ≤ j → j < a → ¬ mt_sym (g0 1) s n 0 (j % n) (c % n)), pg_Good false pm_T_baseB (fun r h' => ∃ z : Int, r = some (.inl z) ∧ (ri_Bb (g0 1) s n c z) ∧ ∃ g', h' = rm g' s n ∧ rf [] [15, 16] g0 g') (7, [(0, .inr (.inr 0)), (1, .inl c), (2, .inl a)], [], rm g s n) := by
  intro d
  induction d with
  | zero =>
    intro g a hd ha hf hI
    have hB := rm_B_fr hB0 hf (by decide)
    have hC := ri_C_fr hC0 hf (by decide)
    obtain ⟨hs, hn, -⟩ := id hB
    obtain ⟨hn1, hn2⟩ := id hn
    have hr := mt_rd_or hs
    have e1 : g 1 = g0 1 := hf.1 1 (by decide) (by decide)
    refine pg_ca 3 (L := []) (Mc := pm_T_isShift) (as := [.inr (.inr 0), .inl a, .inl c]) (h0 := rm g s n) (pc := 13) (lv := [(0, .inr (.inr 0)), (1, .inl c), (2, .inl a)]) (rest := []) rfl trivial (re_isShift (g := g) hB hC a ⟨by omega, by omega⟩ c ⟨by omega, by omega⟩) ?_
    intro r_1 h_1 e_1; obtain ⟨er_, g12, eh_, ef12⟩ := e_1; rw [e1] at er_; rw [er_, eh_]; have hB12 := rm_B_fr hB ef12 (by decide); have hC12 := ri_C_fr hC ef12 (by decide); have hbx := pg_b_or (mt_sym (g0 1) s n 0 (a % n) (c % n))
    refine pg_br 0 (L := []) (P := pg_inR (pg_b (mt_sym (g0 1) s n 0 (a % n) (c % n)))) (c := ¬ (pg_b (mt_sym (g0 1) s n 0 (a % n) (c % n))) = 0) (st1 := (22, [(0, .inr (.inr 0)), (1, .inl c), (2, .inl a)], [], rm g12 s n)) (st2 := (16, [(0, .inr (.inr 0)), (1, .inl c), (2, .inl a)], [], rm g12 s n)) rfl trivial ⟨by omega, by omega⟩ (fun c_13_1 => ?_) (fun c_13_1 => ?_)
    · refine pg_re 1 (L := []) (r := some (.inl a)) (h0 := rm g12 s n) rfl trivial ?_
      refine ⟨a, rfl, ⟨⟨by omega, by omega⟩, ?_, hI⟩, _, rfl, rf_tr hf ef12 (by decide) (by decide)⟩
      rcases hbx with h1 | h1
      · exact h1.1
      · exfalso; omega
    · refine pg_go 2 (L := []) (st' := (7, [(0, .inr (.inr 0)), (1, .inl c), (2, .inl (a + 1))], [], rm g12 s n)) rfl trivial ?_
      exfalso
      have hz := hbx
      rcases hz with h1 | h1
      · omega
      · apply h1.1
        obtain ⟨b, hb1, hb2⟩ := hrx
        rcases (show (b : Int) < a ∨ (b : Int) = a by omega) with h5 | h5
        · exact absurd hb2 (hI b (by omega) h5)
        · rw [h5] at hb2; exact hb2
  | succ d ih =>
    intro g a hd ha hf hI
    have hB := rm_B_fr hB0 hf (by decide)
    have hC := ri_C_fr hC0 hf (by decide)
    obtain ⟨hs, hn, -⟩ := id hB
    obtain ⟨hn1, hn2⟩ := id hn
    have hr := mt_rd_or hs
    have e1 : g 1 = g0 1 := hf.1 1 (by decide) (by decide)
    refine pg_ca 3 (L := []) (Mc := pm_T_isShift) (as := [.inr (.inr 0), .inl a, .inl c]) (h0 := rm g s n) (pc := 13) (lv := [(0, .inr (.inr 0)), (1, .inl c), (2, .inl a)]) (rest := []) rfl trivial (re_isShift (g := g) hB hC a ⟨by omega, by omega⟩ c ⟨by omega, by omega⟩) ?_
    intro r_1 h_1 e_1; obtain ⟨er_, g13, eh_, ef13⟩ := e_1; rw [e1] at er_; rw [er_, eh_]; have hB13 := rm_B_fr hB ef13 (by decide); have hC13 := ri_C_fr hC ef13 (by decide); have hbx := pg_b_or (mt_sym (g0 1) s n 0 (a % n) (c % n))
    refine pg_br 0 (L := []) (P := pg_inR (pg_b (mt_sym (g0 1) s n 0 (a % n) (c % n)))) (c := ¬ (pg_b (mt_sym (g0 1) s n 0 (a % n) (c % n))) = 0) (st1 := (22, [(0, .inr (.inr 0)), (1, .inl c), (2, .inl a)], [], rm g13 s n)) (st2 := (16, [(0, .inr (.inr 0)), (1, .inl c), (2, .inl a)], [], rm g13 s n)) rfl trivial ⟨by omega, by omega⟩ (fun c_13_2 => ?_) (fun c_13_2 => ?_)
    · refine pg_re 1 (L := []) (r := some (.inl a)) (h0 := rm g13 s n) rfl trivial ?_
      refine ⟨a, rfl, ⟨⟨by omega, by omega⟩, ?_, hI⟩, _, rfl, rf_tr hf ef13 (by decide) (by decide)⟩
      rcases hbx with h1 | h1
      · exact h1.1
      · exfalso; omega
    · refine pg_go 2 (L := []) (st' := (7, [(0, .inr (.inr 0)), (1, .inl c), (2, .inl (a + 1))], [], rm g13 s n)) rfl trivial ?_
      refine ih _ _ (by omega) (by omega) (rf_tr hf ef13 (by decide) (by decide)) (fun j h1 h2 => ?_)
      rcases (show j < a ∨ j = a by omega) with h3 | rfl
      · exact hI j h1 h3
      · rcases hbx with h4 | h4
        · omega
        · exact h4.1
theorem re_baseB {g : pg_H} {s n : Int} (hB : rm_B g s n) (hC : ri_C g) : pg_Sem false pm_T_baseB [.inr (.inr 0)] (rm g s n) (fun r h' => ∃ c z : Int, r = some (.inl z) ∧ ri_Cc (g 1) s n c ∧ ri_Bb (g 1) s n c z ∧ ∃ g', h' = rm g' s n ∧ rf [] [15, 16] g g') := by
  obtain ⟨hs, hn, hT⟩ := id hB
  obtain ⟨hn1, hn2⟩ := id hn
  have hr := mt_rd_or hs
  refine pg_Sem_of pm_T_baseB_f rfl ?_
  refine pg_ca 1 (L := []) (Mc := pm_T_baseC) (as := [.inr (.inr 0)]) (h0 := rm g s n) (pc := 4) (lv := [(0, .inr (.inr 0))]) (rest := []) rfl trivial (re_baseC hB hC) ?_
  intro r_1 h_1 e_1; obtain ⟨c_, er_, hcc, gc, eh_, efc⟩ := e_1; rw [er_, eh_]; have hBc := rm_B_fr hB efc (by decide); have hCc := ri_C_fr hC efc (by decide)
  refine pg_go 3 (L := []) (st' := (7, [(0, .inr (.inr 0)), (1, .inl c_), (2, .inl 0)], [], rm gc s n)) rfl trivial ?_
  have ec : gc 1 = g 1 := efc.1 1 (by decide) (by decide)
  have hw : 1 ≤ c_ ∧ c_ ≤ n := hcc.1
  refine po_st_mono (re_bB_l hBc hCc (c := c_) hw (by rw [ec]; exact hcc.2.1) (n - 1).toNat gc 0 (by omega) (by omega) (rf_rf _ _ _) (fun j h1 h2 => by omega)) (fun r_ h_ hq => ?_)
  obtain ⟨z, q1, q2, g3, q3, q4⟩ := hq
  rw [ec] at q2
  exact ⟨c_, z, q1, hcc, q2, g3, q3, rf_tr efc q4 (by decide) (by decide)⟩
theorem re_base {g : pg_H} {s n : Int} (hB : rm_B g s n) (hC : ri_C g) (w : Int) (hw : pg_inR w) : pg_Sem false pm_T_base [.inr (.inr 0), .inl w] (rm g s n) (fun r h' => ∃ z : Int, r = some (.inl z) ∧ (∃ g', h' = rm g' s n ∧ rf [] [15, 16] g g') ∧ (¬ (0 ≤ w ∧ w ≤ 2) → z = -2) ∧ (w = 0 → ri_A (g 1) s n z) ∧ (w = 1 → ∃ c : Int, ri_Cc (g 1) s n c ∧ ri_Bb (g 1) s n c z) ∧ (w = 2 → ri_Cc (g 1) s n z)) := by
  obtain ⟨hs, hn, hT⟩ := id hB
  obtain ⟨hn1, hn2⟩ := id hn
  have hr := mt_rd_or hs
  obtain ⟨w1, w2⟩ := hw
  refine pg_Sem_of pm_T_base_f rfl ?_
  refine pg_br 1 (L := []) (P := pg_inR w) (c := ¬ w = 0) (st1 := (11, [(0, .inr (.inr 0)), (1, .inl w)], [], rm g s n)) (st2 := (4, [(0, .inr (.inr 0)), (1, .inl w)], [], rm g s n)) rfl trivial ⟨by omega, by omega⟩ (fun c_1_1 => ?_) (fun c_1_1 => ?_)
  · refine pg_br 2 (L := []) (P := pg_inR w ∧ pg_inR 1) (c := ¬ w = 1) (st1 := (23, [(0, .inr (.inr 0)), (1, .inl w)], [], rm g s n)) (st2 := (16, [(0, .inr (.inr 0)), (1, .inl w)], [], rm g s n)) rfl trivial ⟨⟨by omega, by omega⟩, ⟨by decide, by decide⟩⟩ (fun c_13_2 => ?_) (fun c_13_2 => ?_)
    · refine pg_br 2 (L := []) (P := pg_inR w ∧ pg_inR 2) (c := ¬ w = 2) (st1 := (35, [(0, .inr (.inr 0)), (1, .inl w)], [], rm g s n)) (st2 := (28, [(0, .inr (.inr 0)), (1, .inl w)], [], rm g s n)) rfl trivial ⟨⟨by omega, by omega⟩, ⟨by decide, by decide⟩⟩ (fun c_25_3 => ?_) (fun c_25_3 => ?_)
      · refine pg_re 1 (L := []) (r := some (.inl (-2))) (h0 := rm g s n) rfl trivial ?_
        exact ⟨-2, rfl, ⟨_, rfl, rf_rf _ _ _⟩, fun _ => rfl, fun hz => absurd hz (by omega), fun hz => absurd hz (by omega), fun hz => absurd hz (by omega)⟩
      · refine pg_ca 1 (L := []) (Mc := pm_T_baseC) (as := [.inr (.inr 0)]) (h0 := rm g s n) (pc := 32) (lv := [(0, .inr (.inr 0)), (1, .inl w)]) (rest := []) rfl trivial (re_baseC hB hC) ?_
        intro r_1 h_1 e_1; obtain ⟨c_, er_, hcc, gc, eh_, efc⟩ := e_1; rw [er_, eh_]; have hBc := rm_B_fr hB efc (by decide); have hCc := ri_C_fr hC efc (by decide)
        refine pg_re 1 (L := []) (r := some (.inl c_)) (h0 := rm gc s n) rfl trivial ?_
        exact ⟨_, rfl, ⟨_, rfl, efc⟩, fun hz => absurd hz (by omega), fun hz => absurd hz (by omega), fun hz => absurd hz (by omega), fun _ => hcc⟩
    · refine pg_ca 1 (L := []) (Mc := pm_T_baseB) (as := [.inr (.inr 0)]) (h0 := rm g s n) (pc := 20) (lv := [(0, .inr (.inr 0)), (1, .inl w)]) (rest := []) rfl trivial (re_baseB hB hC) ?_
      intro r_1 h_1 e_1; obtain ⟨c_, z_, er_, hzc, hzb, gb, eh_, efb⟩ := e_1; rw [er_, eh_]
      refine pg_re 1 (L := []) (r := some (.inl z_)) (h0 := rm gb s n) rfl trivial ?_
      exact ⟨_, rfl, ⟨_, rfl, efb⟩, fun hz => absurd hz (by omega), fun hz => absurd hz (by omega), fun _ => ⟨c_, hzc, hzb⟩, fun hz => absurd hz (by omega)⟩
  · refine pg_ca 1 (L := []) (Mc := pm_T_baseA) (as := [.inr (.inr 0)]) (h0 := rm g s n) (pc := 8) (lv := [(0, .inr (.inr 0)), (1, .inl w)]) (rest := []) rfl trivial (re_baseA hB hC) ?_
    intro r_1 h_1 e_1; obtain ⟨z_, er_, hza, ga, eh_, efa⟩ := e_1; rw [er_, eh_]
    refine pg_re 1 (L := []) (r := some (.inl z_)) (h0 := rm ga s n) rfl trivial ?_
    exact ⟨_, rfl, ⟨_, rfl, efa⟩, fun hz => absurd hz (by omega), fun _ => hza, fun hz => absurd hz (by omega), fun hz => absurd hz (by omega)⟩
set_option maxHeartbeats 4000000 in
theorem re_fs_l {g0 : pg_H} {s n : Int} (hB0 : rm_B g0 s n) (hC0 : ri_C g0) : ∀ (d : Nat) (g : pg_H) (m : Int) (hd : m + (d : Int) = 2 * mt_rd s * (n * n)) (hm : 0 ≤ m) (hf : rf [3] [6, 7, 15, 16] g0 g) (h7 : g 0 7 = 1) (h6 : g 0 6 = pg_cn (mt_sm (g0 1) s n) m.toNat) (h3 : ∀ j : Nat, (j : Int) < m → mt_sm (g0 1) s n j → g 3 (pg_cn (mt_sm (g0 1) s n) j).toNat = j), pg_Good false pm_T_findSymmetries (fun r h' => r = none ∧ ∃ g', h' = rm g' s n ∧ rf [3] [6, 7, 15, 16] g0 g' ∧ g' 0 7 = 1 ∧ ri_S g' s n) (20, [(0, .inr (.inr 0)), (1, .inl m)], [], rm g s n) := by
  intro d
  induction d with
  | zero =>
    intro g m hd hm hf h7 h6 h3
    have hB := rm_B_fr hB0 hf (by decide)
    have hC := ri_C_fr hC0 hf (by decide)
    obtain ⟨hs, hn, -⟩ := id hB
    obtain ⟨hn1, hn2⟩ := id hn
    have hr := mt_rd_or hs
    have e1 : g 1 = g0 1 := hf.1 1 (by decide) (by decide)
    have hN := mt_2rn hs hn
    have eN : 2 * mt_rd s * n * n = 2 * mt_rd s * (n * n) := Int.mul_assoc _ _ _
    refine pg_ca 3 (L := []) (Mc := pm_T_round) (as := [.inr (.inr 0)]) (h0 := rm g s n) (pc := 26) (lv := [(0, .inr (.inr 0)), (1, .inl m)]) (rest := [.inl 2, .inl m]) rfl trivial (re_round (g := g) (n := n) hs) ?_
    intro r_1 h_1 e_1; rw [e_1.1, e_1.2]
    refine pg_br 7 (L := []) (P := pg_inR m ∧ pg_inR (((2 * (mt_rd s)) * n) * n)) (c := (((2 * (mt_rd s)) * n) * n) ≤ m) (st1 := (88, [(0, .inr (.inr 0)), (1, .inl m)], [], rm g s n)) (st2 := (40, [(0, .inr (.inr 0)), (1, .inl m)], [], rm g s n)) rfl trivial ⟨⟨by omega, by omega⟩, ⟨by omega, by omega⟩⟩ (fun c_37_1 => ?_) (fun c_37_1 => ?_)
    · refine pg_re 0 (L := []) (r := none) (h0 := rm g s n) rfl trivial ?_
      refine ⟨rfl, g, rfl, hf, h7, ?_⟩
      unfold ri_S
      rw [e1, show 2 * mt_rd s * (n * n) = m by omega]
      exact ⟨h6, h3⟩
    · exact (by exfalso; omega)
  | succ d ih =>
    intro g m hd hm hf h7 h6 h3
    have hB := rm_B_fr hB0 hf (by decide)
    have hC := ri_C_fr hC0 hf (by decide)
    obtain ⟨hs, hn, -⟩ := id hB
    obtain ⟨hn1, hn2⟩ := id hn
    have hr := mt_rd_or hs
    have e1 : g 1 = g0 1 := hf.1 1 (by decide) (by decide)
    have hN := mt_2rn hs hn
    have eN : 2 * mt_rd s * n * n = 2 * mt_rd s * (n * n) := Int.mul_assoc _ _ _
    have hka := mt_kof hn1 (show 0 ≤ m ∧ m < 2 * mt_rd s * (n * n) by omega)
    have hua := mt_mod hn1 (m / n)
    have hva := mt_mod hn1 m
    have ek : (m + 1).toNat = m.toNat + 1 := by omega
    have em : ((m.toNat : Nat) : Int) = m := by omega
    have hcb := pg_cn_bd (mt_sm (g0 1) s n) m.toNat
    refine pg_ca 3 (L := []) (Mc := pm_T_round) (as := [.inr (.inr 0)]) (h0 := rm g s n) (pc := 26) (lv := [(0, .inr (.inr 0)), (1, .inl m)]) (rest := [.inl 2, .inl m]) rfl trivial (re_round (g := g) (n := n) hs) ?_
    intro r_1 h_1 e_1; rw [e_1.1, e_1.2]
    refine pg_br 7 (L := []) (P := pg_inR m ∧ pg_inR (((2 * (mt_rd s)) * n) * n)) (c := (((2 * (mt_rd s)) * n) * n) ≤ m) (st1 := (88, [(0, .inr (.inr 0)), (1, .inl m)], [], rm g s n)) (st2 := (40, [(0, .inr (.inr 0)), (1, .inl m)], [], rm g s n)) rfl trivial ⟨⟨by omega, by omega⟩, ⟨by omega, by omega⟩⟩ (fun c_37_2 => ?_) (fun c_37_2 => ?_)
    · exact (by exfalso; omega)
    · refine pg_ca 3 (L := []) (Mc := pm_T_kOf) (as := [.inr (.inr 0), .inl m]) (h0 := rm g s n) (pc := 46) (lv := [(0, .inr (.inr 0)), (1, .inl m)]) (rest := [.inr (.inr 0)]) rfl trivial (re_kOf (g := g) (s := s) hn m ⟨by omega, by omega⟩) ?_
      intro r_1 h_1 e_1; rw [e_1.1, e_1.2]
      refine pg_ca 2 (L := []) (Mc := pm_T_uOf) (as := [.inr (.inr 0), .inl m]) (h0 := rm g s n) (pc := 51) (lv := [(0, .inr (.inr 0)), (1, .inl m)]) (rest := [.inl (m / (n * n)), .inr (.inr 0)]) rfl trivial (re_uOf (g := g) (s := s) hn m ⟨by omega, by omega⟩) ?_
      intro r_1 h_1 e_1; rw [e_1.1, e_1.2]
      refine pg_ca 2 (L := []) (Mc := pm_T_vOf) (as := [.inr (.inr 0), .inl m]) (h0 := rm g s n) (pc := 56) (lv := [(0, .inr (.inr 0)), (1, .inl m)]) (rest := [.inl (m / n % n), .inl (m / (n * n)), .inr (.inr 0)]) rfl trivial (re_vOf (g := g) (s := s) hn m ⟨by omega, by omega⟩) ?_
      intro r_1 h_1 e_1; rw [e_1.1, e_1.2]
      refine pg_ca 0 (L := []) (Mc := pm_T_isSymmetry) (as := [.inr (.inr 0), .inl (m / (n * n)), .inl (m / n % n), .inl (m % n)]) (h0 := rm g s n) (pc := 59) (lv := [(0, .inr (.inr 0)), (1, .inl m)]) (rest := []) rfl trivial (re_isSymmetry (g := g) hB hC (m / (n * n)) (m / n % n) (m % n) ⟨by omega, by omega⟩ ⟨by omega, by omega⟩ ⟨by omega, by omega⟩) ?_
      intro r_1 h_1 e_1; obtain ⟨er_, g14, eh_, ef14⟩ := e_1; rw [er_, eh_]; have hB14 := rm_B_fr hB ef14 (by decide); have hC14 := ri_C_fr hC ef14 (by decide); have hb14 := pg_b_or (mt_sym (g 1) s n (m / (n * n)) (m / n % n) (m % n)); have e06_14 : g14 0 6 = g 0 6 := ef14.2 6 (by decide)
      refine pg_br 0 (L := []) (P := pg_inR (pg_b (mt_sym (g 1) s n (m / (n * n)) (m / n % n) (m % n)))) (c := (pg_b (mt_sym (g 1) s n (m / (n * n)) (m / n % n) (m % n))) = 0) (st1 := (82, [(0, .inr (.inr 0)), (1, .inl m)], [], rm g14 s n)) (st2 := (62, [(0, .inr (.inr 0)), (1, .inl m)], [], rm g14 s n)) rfl trivial ⟨by omega, by omega⟩ (fun c_59_3 => ?_) (fun c_59_3 => ?_)
      · refine pg_go 2 (L := []) (st' := (20, [(0, .inr (.inr 0)), (1, .inl (m + 1))], [], rm g14 s n)) rfl trivial ?_
        have e6 : g14 0 6 = g 0 6 := ef14.2 6 (by decide)
        have e3 : g14 3 = g 3 := ef14.1 3 (by decide) (by decide)
        have e7 : g14 0 7 = g 0 7 := ef14.2 7 (by decide)
        have hPm : ¬ mt_sm (g0 1) s n m.toNat := by
          unfold mt_sm
          rw [em]
          rcases hb14 with h1 | h1
          · exfalso; omega
          · rw [← e1]; exact h1.1
        refine ih _ _ (by omega) (by omega) (rf_tr hf ef14 (by decide) (by decide)) (by omega) ?_ (fun j hj hp => ?_)
        · rw [ek]; simp only [pg_cn]; rw [pg_b_f hPm, e6, h6, Int.add_zero]
        · rcases (show (j : Int) < m ∨ j = m.toNat by omega) with h1 | rfl
          · rw [e3]; exact h3 j h1 hp
          · exact absurd hp hPm
      · refine pg_go 14 (L := [0 ≤ (g14 0 6) ∧ (g14 0 6) < (1728 : Int)]) (st' := (20, [(0, .inr (.inr 0)), (1, .inl (m + 1))], [], pg_up (pg_up (rm g14 s n) 3 ((g14 0 6).toNat) m) 0 6 ((g14 0 6) + 1))) rfl ⟨by omega, by omega⟩ ?_
        rw [rm_upq (q := 3) (by decide), rm_up0 (i := 6) (by decide) (by decide)]
        have e6 : g14 0 6 = g 0 6 := ef14.2 6 (by decide)
        have e3 : g14 3 = g 3 := ef14.1 3 (by decide) (by decide)
        have e7 : g14 0 7 = g 0 7 := ef14.2 7 (by decide)
        have hPm : mt_sm (g0 1) s n m.toNat := by
          unfold mt_sm
          rw [em]
          rcases hb14 with h1 | h1
          · rw [← e1]; exact h1.1
          · exfalso; omega
        refine ih _ _ (by omega) (by omega) (rf_0 (rf_q (rf_tr hf ef14 (by decide) (by decide)) (by decide) (by decide) _ _) (by decide) _) ?_ ?_ (fun j hj hp => ?_)
        · show g14 0 7 = 1; omega
        · rw [ek]; simp only [pg_cn]; rw [pg_b_t hPm, pg_up_at, if_pos rfl, e6, h6]
        · show pg_up g14 3 (g14 0 6).toNat m 3 (pg_cn (mt_sm (g0 1) s n) j).toNat = j
          rw [pg_up_at, e6, h6]
          rcases (show (j : Int) < m ∨ j = m.toNat by omega) with h1 | rfl
          · have h2 := pg_cn_lt2 (P := (mt_sm (g0 1) s n)) (show j < m.toNat by omega) hp
            have h4 := pg_cn_bd (mt_sm (g0 1) s n) j
            rw [if_neg (by omega), e3]
            exact h3 j h1 hp
          · rw [if_pos rfl, em]
theorem re_findSymmetries {g : pg_H} {s n : Int} (hB : rm_B g s n) (hC : ri_C g) (hK : ri_K g s n) : pg_Sem false pm_T_findSymmetries [.inr (.inr 0)] (rm g s n) (fun r h' => r = none ∧ ∃ g', h' = rm g' s n ∧ rf [3] [6, 7, 15, 16] g g' ∧ g' 0 7 = 1 ∧ ri_S g' s n) := by
  obtain ⟨hs, hn, hT⟩ := id hB
  obtain ⟨hn1, hn2⟩ := id hn
  have hr := mt_rd_or hs
  have hN := mt_2rn hs hn
  have h77 : g 0 7 = 0 ∨ (g 0 7 = 1 ∧ ri_S g s n) := hK
  refine pg_Sem_of pm_T_findSymmetries_f rfl ?_
  refine pg_br 2 (L := []) (P := pg_inR (g 0 7)) (c := (g 0 7) = 0) (st1 := (8, [(0, .inr (.inr 0))], [], rm g s n)) (st2 := (7, [(0, .inr (.inr 0))], [], rm g s n)) rfl trivial ⟨by omega, by omega⟩ (fun c_4_1 => ?_) (fun c_4_1 => ?_)
  · refine pg_go 8 (L := [1 = 0 ∨ 1 = 1]) (st' := (20, [(0, .inr (.inr 0)), (1, .inl 0)], [], pg_up (pg_up (rm g s n) 0 7 1) 0 6 0)) rfl (Or.inr rfl) ?_
    rw [rm_up0 (i := 7) (by decide) (by decide), rm_up0 (i := 6) (by decide) (by decide)]
    exact re_fs_l hB hC (2 * mt_rd s * (n * n)).toNat _ 0 (by omega) (by omega) (rf_0 (rf_0 (rf_rf _ _ _) (by decide) _) (by decide) _) rfl rfl (fun j hj => absurd hj (by omega))
  · refine pg_re 0 (L := []) (r := none) (h0 := rm g s n) rfl trivial ?_
    rcases hK with h1 | h1
    · exfalso; omega
    · exact ⟨rfl, g, rfl, rf_rf _ _ _, h1.1, h1.2⟩
set_option maxHeartbeats 4000000 in
theorem re_symmetry {g : pg_H} {s n : Int} (hB : rm_B g s n) (hC : ri_C g) (hK : ri_K g s n) (a : Int) (ha : pg_inR a) (w : Int) (hw : pg_inR w) : pg_Sem false pm_T_symmetry [.inr (.inr 0), .inl a, .inl w] (rm g s n) (fun r h' => ∃ (g' : pg_H) (z : Int), h' = rm g' s n ∧ rf [3] [6, 7, 15, 16] g g' ∧ ri_K g' s n ∧ (g 0 7 = 1 → g' 0 7 = 1) ∧ r = some (.inl z) ∧ (¬ (0 ≤ w ∧ w ≤ 2) → z = -2) ∧ (0 ≤ w ∧ w ≤ 2 → (¬ (0 ≤ a ∧ a < pg_cn (mt_sm (g 1) s n) (2 * mt_rd s * (n * n)).toNat) → z = -1) ∧ ((0 ≤ a ∧ a < pg_cn (mt_sm (g 1) s n) (2 * mt_rd s * (n * n)).toNat) → ∃ m : Nat, (m : Int) < 2 * mt_rd s * (n * n) ∧ mt_sm (g 1) s n m ∧ pg_cn (mt_sm (g 1) s n) m = a ∧ z = if w = 0 then (m : Int) / (n * n) else if w = 1 then (m : Int) / n % n else (m : Int) % n))) := by
  obtain ⟨hs, hn, hT⟩ := id hB
  obtain ⟨hn1, hn2⟩ := id hn
  have hr := mt_rd_or hs
  obtain ⟨a1, a2⟩ := ha
  obtain ⟨w1, w2⟩ := hw
  have hN := mt_2rn hs hn
  have hcb := pg_cn_bd (mt_sm (g 1) s n) (2 * mt_rd s * (n * n)).toNat
  refine pg_Sem_of pm_T_symmetry_f rfl ?_
  refine pg_ca 4 (L := [pg_inR w]) (Mc := pm_T_isIn) (as := [.inr (.inl w), .inr (.inl 0), .inr (.inl 2)]) (h0 := rm g s n) (pc := 9) (lv := [(0, .inr (.inr 0)), (1, .inl a), (2, .inl w)]) (rest := []) rfl ⟨by omega, by omega⟩ (re_isIn (rm g s n) w 0 2 ⟨by omega, by omega⟩ ⟨by omega, by omega⟩ ⟨by omega, by omega⟩) ?_
  intro r_1 h_1 e_1; rw [e_1.1, e_1.2]
  have hin_6 : ((if 0 ≤ w ∧ w ≤ 2 then (1 : Int) else 0) = 1 ∧ (0 ≤ w ∧ w ≤ 2)) ∨ ((if 0 ≤ w ∧ w ≤ 2 then (1 : Int) else 0) = 0 ∧ ¬ (0 ≤ w ∧ w ≤ 2)) := by split <;> simp_all
  refine pg_br 0 (L := []) (P := pg_inR (if 0 ≤ w ∧ w ≤ 2 then 1 else 0)) (c := ¬ (if 0 ≤ w ∧ w ≤ 2 then 1 else 0) = 0) (st1 := (15, [(0, .inr (.inr 0)), (1, .inl a), (2, .inl w)], [], rm g s n)) (st2 := (12, [(0, .inr (.inr 0)), (1, .inl a), (2, .inl w)], [], rm g s n)) rfl trivial ⟨by omega, by omega⟩ (fun c_9_1 => ?_) (fun c_9_1 => ?_)
  · refine pg_ca 1 (L := []) (Mc := pm_T_findSymmetries) (as := [.inr (.inr 0)]) (h0 := rm g s n) (pc := 19) (lv := [(0, .inr (.inr 0)), (1, .inl a), (2, .inl w)]) (rest := []) rfl trivial (re_findSymmetries (g := g) hB hC hK) ?_
    intro r_1 h_1 e_1; obtain ⟨er_, g15, eh_, ef15, e715, hS15⟩ := e_1; rw [er_, eh_]; have hB15 := rm_B_fr hB ef15 (by decide); have hC15 := ri_C_fr hC ef15 (by decide)
    have e1_15 : g15 1 = g 1 := ef15.1 1 (by decide) (by decide)
    have h6 : g15 0 6 = pg_cn (mt_sm (g 1) s n) (2 * mt_rd s * (n * n)).toNat := by rw [hS15.1, e1_15]
    refine pg_ca 8 (L := [pg_inR a, pg_inR ((g15 0 6) - 1)]) (Mc := pm_T_isIn) (as := [.inr (.inl a), .inr (.inl 0), .inr (.inl ((g15 0 6) - 1))]) (h0 := rm g15 s n) (pc := 32) (lv := [(0, .inr (.inr 0)), (1, .inl a), (2, .inl w)]) (rest := []) rfl ⟨⟨by omega, by omega⟩, ⟨by omega, by omega⟩⟩ (re_isIn (rm g15 s n) a 0 ((g15 0 6) - 1) ⟨by omega, by omega⟩ ⟨by omega, by omega⟩ ⟨by omega, by omega⟩) ?_
    intro r_1 h_1 e_1; rw [e_1.1, e_1.2]
    have hin_29 : ((if 0 ≤ a ∧ a ≤ ((g15 0 6) - 1) then (1 : Int) else 0) = 1 ∧ (0 ≤ a ∧ a ≤ ((g15 0 6) - 1))) ∨ ((if 0 ≤ a ∧ a ≤ ((g15 0 6) - 1) then (1 : Int) else 0) = 0 ∧ ¬ (0 ≤ a ∧ a ≤ ((g15 0 6) - 1))) := by split <;> simp_all
    refine pg_br 0 (L := []) (P := pg_inR (if 0 ≤ a ∧ a ≤ ((g15 0 6) - 1) then 1 else 0)) (c := (if 0 ≤ a ∧ a ≤ ((g15 0 6) - 1) then 1 else 0) = 0) (st1 := (49, [(0, .inr (.inr 0)), (1, .inl a), (2, .inl w)], [], rm g15 s n)) (st2 := (35, [(0, .inr (.inr 0)), (1, .inl a), (2, .inl w)], [], rm g15 s n)) rfl trivial ⟨by omega, by omega⟩ (fun c_32_2 => ?_) (fun c_32_2 => ?_)
    · refine pg_re 1 (L := []) (r := some (.inl (-1))) (h0 := rm g15 s n) rfl trivial ?_
      refine ⟨_, -1, rfl, ef15, Or.inr ⟨e715, hS15⟩, fun _ => e715, rfl, fun hz => absurd (show 0 ≤ w ∧ w ≤ 2 by omega) hz, fun _ => ⟨fun _ => rfl, fun hz => absurd hz (by omega)⟩⟩
    · have ham : 0 ≤ a ∧ a < pg_cn (mt_sm (g 1) s n) (2 * mt_rd s * (n * n)).toNat := by omega
      obtain ⟨m, hm1, hm2, hm3⟩ := pg_cn_ex ham.1 ham.2
      have hma : g15 3 a.toNat = (m : Int) := by
        have h1 := hS15.2 m (by omega) (by rw [e1_15]; exact hm2)
        rw [e1_15, hm3] at h1
        exact h1
      refine pg_ca 6 (L := [0 ≤ a ∧ a < (1728 : Int)]) (Mc := pm_T_tell) (as := [.inr (.inr 0), .inl (g15 3 a.toNat), .inl w]) (h0 := rm g15 s n) (pc := 46) (lv := [(0, .inr (.inr 0)), (1, .inl a), (2, .inl w)]) (rest := []) rfl ⟨by omega, by omega⟩ (re_tell (g := g15) (s := s) hn (g15 3 a.toNat) w ⟨by omega, by omega⟩ ⟨by omega, by omega⟩) ?_
      intro r_1 h_1 e_1; rw [e_1.1, e_1.2]
      refine pg_re 1 (L := []) (r := some (.inl (if w = 0 then (g15 3 a.toNat) / (n * n) else if w = 1 then (g15 3 a.toNat) / n % n else (g15 3 a.toNat) % n))) (h0 := rm g15 s n) rfl trivial ?_
      refine ⟨_, _, rfl, ef15, Or.inr ⟨e715, hS15⟩, fun _ => e715, rfl, fun hz => absurd (show 0 ≤ w ∧ w ≤ 2 by omega) hz, fun _ => ⟨fun hz => absurd (show 0 ≤ a ∧ a < pg_cn (mt_sm (g 1) s n) (2 * mt_rd s * (n * n)).toNat by omega) hz, fun _ => ⟨m, by omega, hm2, hm3, ?_⟩⟩⟩
      rw [hma]
  · refine pg_re 1 (L := []) (r := some (.inl (-2))) (h0 := rm g s n) rfl trivial ?_
    exact ⟨g, -2, rfl, rf_rf _ _ _, hK, id, rfl, fun _ => rfl, fun hz => absurd hz (by omega)⟩
