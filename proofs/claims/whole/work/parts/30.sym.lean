/-! Symmetries: what study finds -/
def sy_A (col : Nat → Int) (s n a : Int) : Prop := (1 ≤ a ∧ a ≤ n) ∧ (a = n ∨ (n % a = 0 ∧ mt_sym col s n 0 a 0)) ∧ ∀ j : Int, 1 ≤ j → j < a → n % j = 0 → ¬ mt_sym col s n 0 j 0
def sy_BC (col : Nat → Int) (s n a b c : Int) : Prop := (1 ≤ c ∧ c ≤ n) ∧ (0 ≤ b ∧ b < a) ∧ ((c = n ∧ b = 0) ∨ (n % c = 0 ∧ mt_sym col s n 0 b c ∧ ∀ j : Int, 0 ≤ j → j < b → ¬ mt_sym col s n 0 j c)) ∧ ∀ j : Int, 1 ≤ j → j < c → n % j = 0 → ∀ t : Int, 0 ≤ t → t < a → ¬ mt_sym col s n 0 t j
def sy_K (h : pg_H) (s n : Int) (k : Nat) : Prop := (h 11 k = -1 ∧ ∀ u v : Int, 0 ≤ u → u < h 10 4 → 0 ≤ v → v < h 10 6 → ¬ mt_sym (h 7) s n k u v) ∨ ((0 ≤ h 11 k ∧ h 11 k < h 10 4) ∧ (0 ≤ h 12 k ∧ h 12 k < h 10 6) ∧ mt_sym (h 7) s n k (h 11 k) (h 12 k))
/-- what study leaves -/
def sy_D (h : pg_H) (s n : Int) : Prop := sy_A (h 7) s n (h 10 4) ∧ sy_BC (h 7) s n (h 10 4) (h 10 5) (h 10 6) ∧ (∀ k : Nat, (k : Int) < 2 * mt_rd s → sy_K h s n k) ∧ h 10 7 = pg_cn (fun k => h 11 k ≠ -1) (2 * mt_rd s).toNat
theorem mt_pt_of {n p : Int} (hn : 1 ≤ n) : mt_pt n (p % n) (p / n) = p := by
  unfold mt_pt
  have := Int.emod_add_mul_ediv p n
  rw [Int.mul_comm] at this
  omega
theorem mt_row_bd {n p : Int} (hn : 1 ≤ n) (hp : 0 ≤ p ∧ p < n * n) : 0 ≤ p / n ∧ p / n < n := ⟨Int.ediv_nonneg hp.1 (by omega), Int.ediv_lt_of_lt_mul (by omega) hp.2⟩
theorem mt_sym_at {col : Nat → Int} {s n k u v p : Int} (hn : 1 ≤ n) (hp : 0 ≤ p ∧ p < n * n) (h : mt_sym col s n k u v) : col p.toNat = col (mt_tg s n k u v (p % n) (p / n)).toNat := by
  have h1 := mt_mod hn p
  have h2 := mt_row_bd hn hp
  have := h (p % n) (p / n) h1.1 h1.2 h2.1 h2.2
  rw [mt_pt_of hn] at this
  exact this
theorem cs_lsa_l {h : pg_H} {s n : Int} (hB : cm_B h s n) (hC : cp_C h) : ∀ (d : Nat) (j : Int) (hd : j + (d : Int) = n) (hj : 1 ≤ j) (hI : ∀ t : Int, 1 ≤ t → t < j → n % t = 0 → ¬ mt_sym (h 7) s n 0 t 0), pg_Good true pm_S_leastStepAlong (fun r h' => ∃ z : Int, sy_A (h 7) s n z ∧ r = some (.inl z) ∧ h' = h) (2, [(0, .inr (.inr 10)), (1, .inl j)], [], h) := by
  intro d
  induction d with
  | zero =>
    intro j hd hj hI
    obtain ⟨hs, ⟨hn1, hn2⟩, e1, e2, e3, e5⟩ := id hB
    have hr := mt_rd_or hs
    refine pg_br 4 (L := []) (P := pg_inR j ∧ pg_inR (h 4 2)) (c := (h 4 2) ≤ j) (st1 := (46, [(0, .inr (.inr 10)), (1, .inl j)], [], h)) (st2 := (13, [(0, .inr (.inr 10)), (1, .inl j)], [], h)) rfl trivial ⟨⟨by omega, by omega⟩, ⟨by omega, by omega⟩⟩ (fun c_10_1 => ?_) (fun c_10_1 => ?_)
    · refine pg_re 3 (L := []) (r := some (.inl (h 4 2))) (h0 := h) rfl trivial ?_
      refine ⟨_, ?_, rfl, rfl⟩
      rw [e2]
      exact ⟨⟨hn1, Int.le_refl _⟩, Or.inl rfl, fun t h1 h2 h3 => hI t h1 (by omega) h3⟩
    · exact (by exfalso; omega)
  | succ d ih =>
    intro j hd hj hI
    obtain ⟨hs, ⟨hn1, hn2⟩, e1, e2, e3, e5⟩ := id hB
    have hr := mt_rd_or hs
    have em : Int.tmod (h 4 2) j = n % j := by rw [e2, pg_tmod_nn (by omega)]
    have hm := mt_mod hj n
    have hbo := pg_b_or (mt_sym (h 7) s n 0 j 0)
    refine pg_br 4 (L := []) (P := pg_inR j ∧ pg_inR (h 4 2)) (c := (h 4 2) ≤ j) (st1 := (46, [(0, .inr (.inr 10)), (1, .inl j)], [], h)) (st2 := (13, [(0, .inr (.inr 10)), (1, .inl j)], [], h)) rfl trivial ⟨⟨by omega, by omega⟩, ⟨by omega, by omega⟩⟩ (fun c_10_2 => ?_) (fun c_10_2 => ?_)
    · exact (by exfalso; omega)
    · refine pg_br 5 (L := [j ≠ 0 ∧ pg_inR (h 4 2) ∧ pg_inR j]) (P := pg_inR (Int.tmod (h 4 2) j)) (c := ¬ (Int.tmod (h 4 2) j) = 0) (st1 := (40, [(0, .inr (.inr 10)), (1, .inl j)], [], h)) (st2 := (25, [(0, .inr (.inr 10)), (1, .inl j)], [], h)) rfl ⟨by omega, ⟨by omega, by omega⟩, ⟨by omega, by omega⟩⟩ ⟨by omega, by omega⟩ (fun c_22_3 => ?_) (fun c_22_3 => ?_)
      · refine pg_go 2 (L := []) (st' := (2, [(0, .inr (.inr 10)), (1, .inl (j + 1))], [], h)) rfl trivial ?_
        refine ih _ (by omega) (by omega) (fun t h1 h2 h3 => ?_)
        rcases (show t < j ∨ t = j by omega) with h4 | rfl
        · exact hI t h1 h4 h3
        · first | omega | (rcases hbo with hq | hq; (· omega); (· exact hq.1))
      · refine pg_ca 5 (L := []) (Mc := pm_C_keeps) (as := [.inr (.inr 6), .inl 0, .inl j, .inl 0]) (h0 := h) (pc := 35) (lv := [(0, .inr (.inr 10)), (1, .inl j)]) (rest := []) rfl trivial (cp_keeps hB hC (k := 0) (u := j) (v := 0) ⟨by omega, by omega⟩ ⟨by omega, by omega⟩ ⟨by omega, by omega⟩) ?_
        intro r_1 h_1 e_1; rw [e_1.1, e_1.2]
        refine pg_br 0 (L := []) (P := pg_inR (pg_b (mt_sym (h 7) s n 0 j 0))) (c := (pg_b (mt_sym (h 7) s n 0 j 0)) = 0) (st1 := (40, [(0, .inr (.inr 10)), (1, .inl j)], [], h)) (st2 := (38, [(0, .inr (.inr 10)), (1, .inl j)], [], h)) rfl trivial ⟨by omega, by omega⟩ (fun c_35_4 => ?_) (fun c_35_4 => ?_)
        · refine pg_go 2 (L := []) (st' := (2, [(0, .inr (.inr 10)), (1, .inl (j + 1))], [], h)) rfl trivial ?_
          refine ih _ (by omega) (by omega) (fun t h1 h2 h3 => ?_)
          rcases (show t < j ∨ t = j by omega) with h4 | rfl
          · exact hI t h1 h4 h3
          · first | omega | (rcases hbo with hq | hq; (· omega); (· exact hq.1))
        · refine pg_re 1 (L := []) (r := some (.inl j)) (h0 := h) rfl trivial ?_
          refine ⟨_, ?_, rfl, rfl⟩
          rcases hbo with hq | hq
          · exact ⟨⟨hj, by omega⟩, Or.inr ⟨by omega, hq.1⟩, hI⟩
          · omega
theorem cs_lsa {h : pg_H} {s n : Int} (hB : cm_B h s n) (hC : cp_C h) : pg_Sem true pm_S_leastStepAlong [.inr (.inr 10)] h (fun r h' => ∃ z : Int, sy_A (h 7) s n z ∧ r = some (.inl z) ∧ h' = h) := by
  obtain ⟨hs, ⟨hn1, hn2⟩, e1, e2, e3, e5⟩ := id hB
  have hr := mt_rd_or hs
  refine pg_Sem_of pm_S_leastStepAlong_f rfl ?_
  refine pg_go 2 (L := []) (st' := (2, [(0, .inr (.inr 10)), (1, .inl 1)], [], h)) rfl trivial ?_
  exact cs_lsa_l hB hC (n - 1).toNat _ (by omega) (by omega) (fun t h1 h2 => by omega)
theorem cs_fss_t {h : pg_H} {s n : Int} (hB : cm_B h s n) (hC : cp_C h) (ha : 1 ≤ h 10 4 ∧ h 10 4 ≤ 12) {j : Int} (hj : 1 ≤ j ∧ j < n) (hNo : ∀ q : Int, 1 ≤ q → q < j → n % q = 0 → ∀ t : Int, 0 ≤ t → t < h 10 4 → ¬ mt_sym (h 7) s n 0 t q) : ∀ (d : Nat) (t : Int) (hd : t + (d : Int) = h 10 4) (ht : 0 ≤ t) (hI : ∀ q : Int, 0 ≤ q → q < t → ¬ mt_sym (h 7) s n 0 q j) (hK : (n % j = 0 → ∀ q : Int, 0 ≤ q → q < h 10 4 → ¬ mt_sym (h 7) s n 0 q j) → pg_Good true pm_S_findSecondStep (fun r h' => ∃ b c : Int, sy_BC (h 7) s n (h 10 4) b c ∧ r = none ∧ h' = pg_up (pg_up h 10 5 b) 10 6 c) (65, [(0, .inr (.inr 10)), (1, .inl j)], [], h)), pg_Good true pm_S_findSecondStep (fun r h' => ∃ b c : Int, sy_BC (h 7) s n (h 10 4) b c ∧ r = none ∧ h' = pg_up (pg_up h 10 5 b) 10 6 c) (15, [(0, .inr (.inr 10)), (1, .inl j), (2, .inl t)], [], h) := by
  intro d
  induction d with
  | zero =>
    intro t hd ht hI hK
    obtain ⟨hs, ⟨hn1, hn2⟩, e1, e2, e3, e5⟩ := id hB
    have hr := mt_rd_or hs
    refine pg_br 3 (L := []) (P := pg_inR t ∧ pg_inR (h 10 4)) (c := (h 10 4) ≤ t) (st1 := (65, [(0, .inr (.inr 10)), (1, .inl j), (2, .inl t)], [], h)) (st2 := (23, [(0, .inr (.inr 10)), (1, .inl j), (2, .inl t)], [], h)) rfl trivial ⟨⟨by omega, by omega⟩, ⟨by omega, by omega⟩⟩ (fun c_20_1 => ?_) (fun c_20_1 => ?_)
    · refine pg_pick [0, 1] rfl ?_
      exact hK (fun _ q h1 h2 => hI q h1 (by omega))
    · exact (by exfalso; omega)
  | succ d ih =>
    intro t hd ht hI hK
    obtain ⟨hs, ⟨hn1, hn2⟩, e1, e2, e3, e5⟩ := id hB
    have hr := mt_rd_or hs
    have em : Int.tmod (h 4 2) j = n % j := by rw [e2, pg_tmod_nn (by omega)]
    have hm := mt_mod hj.1 n
    have hbo := pg_b_or (mt_sym (h 7) s n 0 t j)
    refine pg_br 3 (L := []) (P := pg_inR t ∧ pg_inR (h 10 4)) (c := (h 10 4) ≤ t) (st1 := (65, [(0, .inr (.inr 10)), (1, .inl j), (2, .inl t)], [], h)) (st2 := (23, [(0, .inr (.inr 10)), (1, .inl j), (2, .inl t)], [], h)) rfl trivial ⟨⟨by omega, by omega⟩, ⟨by omega, by omega⟩⟩ (fun c_20_2 => ?_) (fun c_20_2 => ?_)
    · exact (by exfalso; omega)
    · refine pg_br 5 (L := [j ≠ 0 ∧ pg_inR (h 4 2) ∧ pg_inR j]) (P := pg_inR (Int.tmod (h 4 2) j)) (c := ¬ (Int.tmod (h 4 2) j) = 0) (st1 := (65, [(0, .inr (.inr 10)), (1, .inl j), (2, .inl t)], [], h)) (st2 := (35, [(0, .inr (.inr 10)), (1, .inl j), (2, .inl t)], [], h)) rfl ⟨by omega, ⟨by omega, by omega⟩, ⟨by omega, by omega⟩⟩ ⟨by omega, by omega⟩ (fun c_32_3 => ?_) (fun c_32_3 => ?_)
      · refine pg_pick [0, 1] rfl ?_
        exact hK (fun h0 => absurd h0 (by omega))
      · refine pg_ca 5 (L := []) (Mc := pm_C_keeps) (as := [.inr (.inr 6), .inl 0, .inl t, .inl j]) (h0 := h) (pc := 45) (lv := [(0, .inr (.inr 10)), (1, .inl j), (2, .inl t)]) (rest := []) rfl trivial (cp_keeps hB hC (k := 0) (u := t) (v := j) ⟨by omega, by omega⟩ ⟨by omega, by omega⟩ ⟨by omega, by omega⟩) ?_
        intro r_1 h_1 e_1; rw [e_1.1, e_1.2]
        refine pg_br 0 (L := []) (P := pg_inR (pg_b (mt_sym (h 7) s n 0 t j))) (c := (pg_b (mt_sym (h 7) s n 0 t j)) = 0) (st1 := (59, [(0, .inr (.inr 10)), (1, .inl j), (2, .inl t)], [], h)) (st2 := (48, [(0, .inr (.inr 10)), (1, .inl j), (2, .inl t)], [], h)) rfl trivial ⟨by omega, by omega⟩ (fun c_45_4 => ?_) (fun c_45_4 => ?_)
        · refine pg_go 2 (L := []) (st' := (15, [(0, .inr (.inr 10)), (1, .inl j), (2, .inl (t + 1))], [], h)) rfl trivial ?_
          refine ih _ (by omega) (by omega) (fun q h1 h2 => ?_) hK
          rcases (show q < t ∨ q = t by omega) with h4 | rfl
          · exact hI q h1 h4
          · rcases hbo with hq | hq
            · omega
            · exact hq.1
        · refine pg_re 6 (L := []) (r := none) (h0 := pg_up (pg_up h 10 5 t) 10 6 j) rfl trivial ?_
          refine ⟨t, j, ?_, rfl, rfl⟩
          rcases hbo with hq | hq
          · exact ⟨⟨hj.1, by omega⟩, ⟨ht, by omega⟩, Or.inr ⟨by omega, hq.1, hI⟩, hNo⟩
          · omega
theorem cs_fss_j {h : pg_H} {s n : Int} (hB : cm_B h s n) (hC : cp_C h) (ha : 1 ≤ h 10 4 ∧ h 10 4 ≤ 12) : ∀ (d : Nat) (j : Int) (hd : j + (d : Int) = n) (hj : 1 ≤ j) (hNo : ∀ q : Int, 1 ≤ q → q < j → n % q = 0 → ∀ t : Int, 0 ≤ t → t < h 10 4 → ¬ mt_sym (h 7) s n 0 t q), pg_Good true pm_S_findSecondStep (fun r h' => ∃ b c : Int, sy_BC (h 7) s n (h 10 4) b c ∧ r = none ∧ h' = pg_up (pg_up h 10 5 b) 10 6 c) (2, [(0, .inr (.inr 10)), (1, .inl j)], [], h) := by
  intro d
  induction d with
  | zero =>
    intro j hd hj hNo
    obtain ⟨hs, ⟨hn1, hn2⟩, e1, e2, e3, e5⟩ := id hB
    have hr := mt_rd_or hs
    refine pg_br 4 (L := []) (P := pg_inR j ∧ pg_inR (h 4 2)) (c := (h 4 2) ≤ j) (st1 := (71, [(0, .inr (.inr 10)), (1, .inl j)], [], h)) (st2 := (13, [(0, .inr (.inr 10)), (1, .inl j)], [], h)) rfl trivial ⟨⟨by omega, by omega⟩, ⟨by omega, by omega⟩⟩ (fun c_10_1 => ?_) (fun c_10_1 => ?_)
    · refine pg_re 8 (L := []) (r := none) (h0 := pg_up (pg_up h 10 5 0) 10 6 (h 4 2)) rfl trivial ?_
      refine ⟨0, h 4 2, ?_, rfl, rfl⟩
      rw [e2]
      exact ⟨⟨hn1, Int.le_refl _⟩, ⟨Int.le_refl _, by omega⟩, Or.inl ⟨rfl, rfl⟩, fun q h1 h2 h3 => hNo q h1 (by omega) h3⟩
    · exact (by exfalso; omega)
  | succ d ih =>
    intro j hd hj hNo
    obtain ⟨hs, ⟨hn1, hn2⟩, e1, e2, e3, e5⟩ := id hB
    have hr := mt_rd_or hs
    refine pg_br 4 (L := []) (P := pg_inR j ∧ pg_inR (h 4 2)) (c := (h 4 2) ≤ j) (st1 := (71, [(0, .inr (.inr 10)), (1, .inl j)], [], h)) (st2 := (13, [(0, .inr (.inr 10)), (1, .inl j)], [], h)) rfl trivial ⟨⟨by omega, by omega⟩, ⟨by omega, by omega⟩⟩ (fun c_10_2 => ?_) (fun c_10_2 => ?_)
    · exact (by exfalso; omega)
    · refine pg_go 2 (L := []) (st' := (15, [(0, .inr (.inr 10)), (1, .inl j), (2, .inl 0)], [], h)) rfl trivial ?_
      refine cs_fss_t hB hC ha (j := j) ⟨by omega, by omega⟩ hNo (h 10 4).toNat _ (by omega) (by omega) (fun q h1 h2 => by omega) (fun hR => ?_)
      refine pg_go 2 (L := []) (st' := (2, [(0, .inr (.inr 10)), (1, .inl (j + 1))], [], h)) rfl trivial ?_
      refine ih _ (by omega) (by omega) (fun q h1 h2 h3 => ?_)
      rcases (show q < j ∨ q = j by omega) with h4 | rfl
      · exact hNo q h1 h4 h3
      · exact hR h3
theorem cs_fss {h : pg_H} {s n : Int} (hB : cm_B h s n) (hC : cp_C h) (ha : 1 ≤ h 10 4 ∧ h 10 4 ≤ 12) : pg_Sem true pm_S_findSecondStep [.inr (.inr 10)] h (fun r h' => ∃ b c : Int, sy_BC (h 7) s n (h 10 4) b c ∧ r = none ∧ h' = pg_up (pg_up h 10 5 b) 10 6 c) := by
  obtain ⟨hs, ⟨hn1, hn2⟩, e1, e2, e3, e5⟩ := id hB
  have hr := mt_rd_or hs
  refine pg_Sem_of pm_S_findSecondStep_f rfl ?_
  refine pg_go 2 (L := []) (st' := (2, [(0, .inr (.inr 10)), (1, .inl 1)], [], h)) rfl trivial ?_
  exact cs_fss_j hB hC ha (n - 1).toNat _ (by omega) (by omega) (fun q h1 h2 => by omega)
theorem cs_fo_v {h : pg_H} {s n : Int} (hB : cm_B h s n) (hC : cp_C h) (ha : 1 ≤ h 10 4 ∧ h 10 4 ≤ 12) (hc : 1 ≤ h 10 6 ∧ h 10 6 ≤ 12) {k an : Int} (hk : 0 ≤ k ∧ k < 2 * mt_rd s) (han : 0 ≤ an ∧ an < n * n) {u : Int} (hu : 0 ≤ u ∧ u < h 10 4) : ∀ (d : Nat) (v : Int) (hd : v + (d : Int) = h 10 6) (hv : 0 ≤ v) (hI : ∀ q : Int, 0 ≤ q → q < v → ¬ mt_sym (h 7) s n k u q) (hK : (∀ q : Int, 0 ≤ q → q < h 10 6 → ¬ mt_sym (h 7) s n k u q) → pg_Good true pm_S_findOne (fun r h' => r = none ∧ ((h' = h ∧ ∀ u v : Int, 0 ≤ u → u < h 10 4 → 0 ≤ v → v < h 10 6 → ¬ mt_sym (h 7) s n k u v) ∨ ∃ u v : Int, (0 ≤ u ∧ u < h 10 4) ∧ (0 ≤ v ∧ v < h 10 6) ∧ mt_sym (h 7) s n k u v ∧ h' = pg_up (pg_up h 11 k.toNat u) 12 k.toNat v)) (120, [(0, .inr (.inr 10)), (1, .inl k), (2, .inl an), (3, .inl (an % n)), (4, .inl (an / n)), (5, .inl u)], [], h)), pg_Good true pm_S_findOne (fun r h' => r = none ∧ ((h' = h ∧ ∀ u v : Int, 0 ≤ u → u < h 10 4 → 0 ≤ v → v < h 10 6 → ¬ mt_sym (h 7) s n k u v) ∨ ∃ u v : Int, (0 ≤ u ∧ u < h 10 4) ∧ (0 ≤ v ∧ v < h 10 6) ∧ mt_sym (h 7) s n k u v ∧ h' = pg_up (pg_up h 11 k.toNat u) 12 k.toNat v)) (34, [(0, .inr (.inr 10)), (1, .inl k), (2, .inl an), (3, .inl (an % n)), (4, .inl (an / n)), (5, .inl u), (6, .inl v)], [], h) := by
  intro d
  induction d with
  | zero =>
    intro v hd hv hI hK
    obtain ⟨hs, ⟨hn1, hn2⟩, e1, e2, e3, e5⟩ := id hB
    have hr := mt_rd_or hs
    have hnn := mt_nn hn1 hn2
    have hx := mt_mod hn1 an
    have hy := mt_row_bd hn1 han
    refine pg_br 3 (L := []) (P := pg_inR v ∧ pg_inR (h 10 6)) (c := (h 10 6) ≤ v) (st1 := (120, [(0, .inr (.inr 10)), (1, .inl k), (2, .inl an), (3, .inl (an % n)), (4, .inl (an / n)), (5, .inl u), (6, .inl v)], [], h)) (st2 := (43, [(0, .inr (.inr 10)), (1, .inl k), (2, .inl an), (3, .inl (an % n)), (4, .inl (an / n)), (5, .inl u), (6, .inl v)], [], h)) rfl trivial ⟨⟨by omega, by omega⟩, ⟨by omega, by omega⟩⟩ (fun c_40_1 => ?_) (fun c_40_1 => ?_)
    · refine pg_pick [0, 1, 2, 3, 4, 5] rfl ?_
      exact hK (fun q h1 h2 => hI q h1 (by omega))
    · exact (by exfalso; omega)
  | succ d ih =>
    intro v hd hv hI hK
    obtain ⟨hs, ⟨hn1, hn2⟩, e1, e2, e3, e5⟩ := id hB
    have hr := mt_rd_or hs
    have hnn := mt_nn hn1 hn2
    have hx := mt_mod hn1 an
    have hy := mt_row_bd hn1 han
    have hbo := pg_b_or (mt_sym (h 7) s n k u v)
    have ht := mt_tg_bd (s := s) (k := k) (u := u) (v := v) (x := an % n) (y := an / n) hn1 hn2
    have c1 := hC (mt_tg s n k u v (an % n) (an / n)).toNat (by omega)
    have c2 := hC an.toNat (by omega)
    have hat := mt_sym_at (col := h 7) (s := s) (k := k) (u := u) (v := v) hn1 han
    refine pg_br 3 (L := []) (P := pg_inR v ∧ pg_inR (h 10 6)) (c := (h 10 6) ≤ v) (st1 := (120, [(0, .inr (.inr 10)), (1, .inl k), (2, .inl an), (3, .inl (an % n)), (4, .inl (an / n)), (5, .inl u), (6, .inl v)], [], h)) (st2 := (43, [(0, .inr (.inr 10)), (1, .inl k), (2, .inl an), (3, .inl (an % n)), (4, .inl (an / n)), (5, .inl u), (6, .inl v)], [], h)) rfl trivial ⟨⟨by omega, by omega⟩, ⟨by omega, by omega⟩⟩ (fun c_40_2 => ?_) (fun c_40_2 => ?_)
    · exact (by exfalso; omega)
    · refine pg_ca 7 (L := []) (Mc := pm_M_target) (as := [.inr (.inr 4), .inl k, .inl u, .inl v, .inl (an % n), .inl (an / n)]) (h0 := h) (pc := 58) (lv := [(0, .inr (.inr 10)), (1, .inl k), (2, .inl an), (3, .inl (an % n)), (4, .inl (an / n)), (5, .inl u), (6, .inl v)]) (rest := []) rfl trivial (cm_target hB k u v (an % n) (an / n) ⟨by omega, by omega⟩ ⟨by omega, by omega⟩ ⟨by omega, by omega⟩ ⟨by omega, by omega⟩ ⟨by omega, by omega⟩) ?_
      intro r_1 h_1 e_1; rw [e_1.1, e_1.2]
      refine pg_br 11 (L := [0 ≤ (mt_tg s n k u v (an % n) (an / n)) ∧ (mt_tg s n k u v (an % n) (an / n)) < (144 : Int), 0 ≤ an ∧ an < (144 : Int)]) (P := pg_inR (h 7 ((mt_tg s n k u v (an % n) (an / n)).toNat)) ∧ pg_inR (h 7 an.toNat)) (c := ¬ (h 7 ((mt_tg s n k u v (an % n) (an / n)).toNat)) = (h 7 an.toNat)) (st1 := (114, [(0, .inr (.inr 10)), (1, .inl k), (2, .inl an), (3, .inl (an % n)), (4, .inl (an / n)), (5, .inl u), (6, .inl v), (7, .inl (mt_tg s n k u v (an % n) (an / n)))], [], h)) (st2 := (82, [(0, .inr (.inr 10)), (1, .inl k), (2, .inl an), (3, .inl (an % n)), (4, .inl (an / n)), (5, .inl u), (6, .inl v), (7, .inl (mt_tg s n k u v (an % n) (an / n)))], [], h)) rfl ⟨⟨by omega, by omega⟩, ⟨by omega, by omega⟩⟩ ⟨⟨by omega, by omega⟩, ⟨by omega, by omega⟩⟩ (fun c_79_3 => ?_) (fun c_79_3 => ?_)
      · refine pg_go 2 (L := []) (st' := (34, [(0, .inr (.inr 10)), (1, .inl k), (2, .inl an), (3, .inl (an % n)), (4, .inl (an / n)), (5, .inl u), (6, .inl (v + 1)), (7, .inl (mt_tg s n k u v (an % n) (an / n)))], [], h)) rfl trivial ?_
        refine pg_pick [0, 1, 2, 3, 4, 5, 6] rfl ?_
        refine ih _ (by omega) (by omega) (fun q h1 h2 => ?_) hK
        rcases (show q < v ∨ q = v by omega) with h4 | rfl
        · exact hI q h1 h4
        · rcases hbo with hq | hq
          · have := hat hq.1; omega
          · exact hq.1
      · refine pg_ca 5 (L := []) (Mc := pm_C_keeps) (as := [.inr (.inr 6), .inl k, .inl u, .inl v]) (h0 := h) (pc := 94) (lv := [(0, .inr (.inr 10)), (1, .inl k), (2, .inl an), (3, .inl (an % n)), (4, .inl (an / n)), (5, .inl u), (6, .inl v), (7, .inl (mt_tg s n k u v (an % n) (an / n)))]) (rest := []) rfl trivial (cp_keeps hB hC (k := k) (u := u) (v := v) ⟨by omega, by omega⟩ ⟨by omega, by omega⟩ ⟨by omega, by omega⟩) ?_
        intro r_1 h_1 e_1; rw [e_1.1, e_1.2]
        refine pg_br 0 (L := []) (P := pg_inR (pg_b (mt_sym (h 7) s n k u v))) (c := (pg_b (mt_sym (h 7) s n k u v)) = 0) (st1 := (114, [(0, .inr (.inr 10)), (1, .inl k), (2, .inl an), (3, .inl (an % n)), (4, .inl (an / n)), (5, .inl u), (6, .inl v), (7, .inl (mt_tg s n k u v (an % n) (an / n)))], [], h)) (st2 := (97, [(0, .inr (.inr 10)), (1, .inl k), (2, .inl an), (3, .inl (an % n)), (4, .inl (an / n)), (5, .inl u), (6, .inl v), (7, .inl (mt_tg s n k u v (an % n) (an / n)))], [], h)) rfl trivial ⟨by omega, by omega⟩ (fun c_94_4 => ?_) (fun c_94_4 => ?_)
        · refine pg_go 2 (L := []) (st' := (34, [(0, .inr (.inr 10)), (1, .inl k), (2, .inl an), (3, .inl (an % n)), (4, .inl (an / n)), (5, .inl u), (6, .inl (v + 1)), (7, .inl (mt_tg s n k u v (an % n) (an / n)))], [], h)) rfl trivial ?_
          refine pg_pick [0, 1, 2, 3, 4, 5, 6] rfl ?_
          refine ih _ (by omega) (by omega) (fun q h1 h2 => ?_) hK
          rcases (show q < v ∨ q = v by omega) with h4 | rfl
          · exact hI q h1 h4
          · rcases hbo with hq | hq
            · have := hat hq.1; omega
            · exact hq.1
        · refine pg_re 10 (L := [0 ≤ k ∧ k < (12 : Int), 0 ≤ k ∧ k < (12 : Int)]) (r := none) (h0 := pg_up (pg_up h 11 k.toNat u) 12 k.toNat v) rfl ⟨⟨by omega, by omega⟩, ⟨by omega, by omega⟩⟩ ?_
          refine ⟨rfl, Or.inr ⟨u, v, hu, ⟨by omega, by omega⟩, ?_, rfl⟩⟩
          rcases hbo with hq | hq
          · exact hq.1
          · omega
theorem cs_fo_u {h : pg_H} {s n : Int} (hB : cm_B h s n) (hC : cp_C h) (ha : 1 ≤ h 10 4 ∧ h 10 4 ≤ 12) (hc : 1 ≤ h 10 6 ∧ h 10 6 ≤ 12) {k an : Int} (hk : 0 ≤ k ∧ k < 2 * mt_rd s) (han : 0 ≤ an ∧ an < n * n) : ∀ (d : Nat) (u : Int) (hd : u + (d : Int) = h 10 4) (hu : 0 ≤ u) (hI : ∀ q v : Int, 0 ≤ q → q < u → 0 ≤ v → v < h 10 6 → ¬ mt_sym (h 7) s n k q v), pg_Good true pm_S_findOne (fun r h' => r = none ∧ ((h' = h ∧ ∀ u v : Int, 0 ≤ u → u < h 10 4 → 0 ≤ v → v < h 10 6 → ¬ mt_sym (h 7) s n k u v) ∨ ∃ u v : Int, (0 ≤ u ∧ u < h 10 4) ∧ (0 ≤ v ∧ v < h 10 6) ∧ mt_sym (h 7) s n k u v ∧ h' = pg_up (pg_up h 11 k.toNat u) 12 k.toNat v)) (22, [(0, .inr (.inr 10)), (1, .inl k), (2, .inl an), (3, .inl (an % n)), (4, .inl (an / n)), (5, .inl u)], [], h) := by
  intro d
  induction d with
  | zero =>
    intro u hd hu hI
    obtain ⟨hs, ⟨hn1, hn2⟩, e1, e2, e3, e5⟩ := id hB
    have hr := mt_rd_or hs
    have hnn := mt_nn hn1 hn2
    have hx := mt_mod hn1 an
    have hy := mt_row_bd hn1 han
    refine pg_br 3 (L := []) (P := pg_inR u ∧ pg_inR (h 10 4)) (c := (h 10 4) ≤ u) (st1 := (126, [(0, .inr (.inr 10)), (1, .inl k), (2, .inl an), (3, .inl (an % n)), (4, .inl (an / n)), (5, .inl u)], [], h)) (st2 := (31, [(0, .inr (.inr 10)), (1, .inl k), (2, .inl an), (3, .inl (an % n)), (4, .inl (an / n)), (5, .inl u)], [], h)) rfl trivial ⟨⟨by omega, by omega⟩, ⟨by omega, by omega⟩⟩ (fun c_28_1 => ?_) (fun c_28_1 => ?_)
    · refine pg_re 0 (L := []) (r := none) (h0 := h) rfl trivial ?_
      exact ⟨rfl, Or.inl ⟨rfl, fun q v h1 h2 h3 h4 => hI q v h1 (by omega) h3 h4⟩⟩
    · exact (by exfalso; omega)
  | succ d ih =>
    intro u hd hu hI
    obtain ⟨hs, ⟨hn1, hn2⟩, e1, e2, e3, e5⟩ := id hB
    have hr := mt_rd_or hs
    have hnn := mt_nn hn1 hn2
    have hx := mt_mod hn1 an
    have hy := mt_row_bd hn1 han
    refine pg_br 3 (L := []) (P := pg_inR u ∧ pg_inR (h 10 4)) (c := (h 10 4) ≤ u) (st1 := (126, [(0, .inr (.inr 10)), (1, .inl k), (2, .inl an), (3, .inl (an % n)), (4, .inl (an / n)), (5, .inl u)], [], h)) (st2 := (31, [(0, .inr (.inr 10)), (1, .inl k), (2, .inl an), (3, .inl (an % n)), (4, .inl (an / n)), (5, .inl u)], [], h)) rfl trivial ⟨⟨by omega, by omega⟩, ⟨by omega, by omega⟩⟩ (fun c_28_2 => ?_) (fun c_28_2 => ?_)
    · exact (by exfalso; omega)
    · refine pg_go 2 (L := []) (st' := (34, [(0, .inr (.inr 10)), (1, .inl k), (2, .inl an), (3, .inl (an % n)), (4, .inl (an / n)), (5, .inl u), (6, .inl 0)], [], h)) rfl trivial ?_
      refine cs_fo_v hB hC ha hc hk han (u := u) ⟨by omega, by omega⟩ (h 10 6).toNat _ (by omega) (by omega) (fun q h1 h2 => by omega) (fun hR => ?_)
      refine pg_go 2 (L := []) (st' := (22, [(0, .inr (.inr 10)), (1, .inl k), (2, .inl an), (3, .inl (an % n)), (4, .inl (an / n)), (5, .inl (u + 1))], [], h)) rfl trivial ?_
      refine ih _ (by omega) (by omega) (fun q v h1 h2 h3 h4 => ?_)
      rcases (show q < u ∨ q = u by omega) with h5 | rfl
      · exact hI q v h1 h5 h3 h4
      · exact hR v h3 h4
theorem cs_fo {h : pg_H} {s n : Int} (hB : cm_B h s n) (hC : cp_C h) (ha : 1 ≤ h 10 4 ∧ h 10 4 ≤ 12) (hc : 1 ≤ h 10 6 ∧ h 10 6 ≤ 12) {k an : Int} (hk : 0 ≤ k ∧ k < 2 * mt_rd s) (han : 0 ≤ an ∧ an < n * n) : pg_Sem true pm_S_findOne [.inr (.inr 10), .inl k, .inl an] h (fun r h' => r = none ∧ ((h' = h ∧ ∀ u v : Int, 0 ≤ u → u < h 10 4 → 0 ≤ v → v < h 10 6 → ¬ mt_sym (h 7) s n k u v) ∨ ∃ u v : Int, (0 ≤ u ∧ u < h 10 4) ∧ (0 ≤ v ∧ v < h 10 6) ∧ mt_sym (h 7) s n k u v ∧ h' = pg_up (pg_up h 11 k.toNat u) 12 k.toNat v)) := by
  obtain ⟨hs, ⟨hn1, hn2⟩, e1, e2, e3, e5⟩ := id hB
  have hr := mt_rd_or hs
  have hnn := mt_nn hn1 hn2
  have hx := mt_mod hn1 an
  have hy := mt_row_bd hn1 han
  refine pg_Sem_of pm_S_findOne_f rfl ?_
  refine pg_ca 3 (L := []) (Mc := pm_M_columnOf) (as := [.inr (.inr 4), .inl an]) (h0 := h) (pc := 8) (lv := [(0, .inr (.inr 10)), (1, .inl k), (2, .inl an)]) (rest := []) rfl trivial (cm_columnOf hB an ⟨by omega, by omega⟩) ?_
  intro r_1 h_1 e_1; rw [e_1.1, e_1.2]
  refine pg_ca 4 (L := []) (Mc := pm_M_rowOf) (as := [.inr (.inr 4), .inl an]) (h0 := h) (pc := 17) (lv := [(0, .inr (.inr 10)), (1, .inl k), (2, .inl an), (3, .inl (an % n))]) (rest := []) rfl trivial (cm_rowOf hB an ⟨by omega, by omega⟩) ?_
  intro r_1 h_1 e_1; rw [e_1.1, e_1.2]
  refine pg_go 3 (L := []) (st' := (22, [(0, .inr (.inr 10)), (1, .inl k), (2, .inl an), (3, .inl (an % n)), (4, .inl (an / n)), (5, .inl 0)], [], h)) rfl trivial ?_
  exact cs_fo_u hB hC ha hc hk han (h 10 4).toNat _ (by omega) (by omega) (fun q v h1 h2 => by omega)
