/-! Symmetries: numbered, changes -/
theorem mt_dm {n u v : Int} (hn : 1 ≤ n) (hv : 0 ≤ v ∧ v < n) : (u * n + v) / n = u ∧ (u * n + v) % n = v := by
  constructor
  · rw [Int.add_comm, Int.add_mul_ediv_right v u (by omega), Int.ediv_eq_zero_of_lt hv.1 hv.2]
    omega
  · rw [Int.add_comm, Int.add_mul_emod_self_right]
    exact Int.emod_eq_of_lt hv.1 hv.2
def sy_Pm (h : pg_H) (n k : Int) (m : Nat) : Prop := sy_P h k ((m : Int) / n) ((m : Int) % n)
theorem sy_Pm_at {h : pg_H} {n k u v : Int} (hn : 1 ≤ n) (hu : 0 ≤ u) (hv : 0 ≤ v ∧ v < n) : sy_Pm h n k (u * n + v).toNat ↔ sy_P h k u v := by
  have h0 : 0 ≤ u * n := Int.mul_nonneg hu (by omega)
  unfold sy_Pm
  rw [show (((u * n + v).toNat : Nat) : Int) = u * n + v by omega, (mt_dm hn hv).1, (mt_dm hn hv).2]
theorem cs_no_v {h : pg_H} {s n : Int} (hB : cm_B h s n) (hR : sy_R h s) {k j : Int} (hk : 0 ≤ k ∧ k < 2 * mt_rd s) (hj : 0 ≤ j ∧ j < 100000) {u : Int} (hu : 0 ≤ u ∧ u < n) : ∀ (d : Nat) (f v : Int) (hd : v + (d : Int) = n) (hv : 0 ≤ v) (hf : 0 ≤ f) (hI : pg_cn (sy_Pm h n k) (u * n + v).toNat + f = j) (hK : ∀ f2 : Int, 0 ≤ f2 → pg_cn (sy_Pm h n k) (u * n + n).toNat + f2 = j → pg_Good true pm_S_numberedOf (fun r h' => ((∃ m : Nat, (m : Int) < n * n ∧ sy_Pm h n k m ∧ pg_cn (sy_Pm h n k) m = j ∧ r = some (.inl (mt_cd n k ((m : Int) / n) ((m : Int) % n)))) ∨ (pg_cn (sy_Pm h n k) (n * n).toNat ≤ j ∧ r = some (.inl (-1)))) ∧ h' = h) (70, [(0, .inr (.inr 10)), (1, .inl k), (2, .inl j), (3, .inl f2), (4, .inl u)], [], h)), pg_Good true pm_S_numberedOf (fun r h' => ((∃ m : Nat, (m : Int) < n * n ∧ sy_Pm h n k m ∧ pg_cn (sy_Pm h n k) m = j ∧ r = some (.inl (mt_cd n k ((m : Int) / n) ((m : Int) % n)))) ∨ (pg_cn (sy_Pm h n k) (n * n).toNat ≤ j ∧ r = some (.inl (-1)))) ∧ h' = h) (20, [(0, .inr (.inr 10)), (1, .inl k), (2, .inl j), (3, .inl f), (4, .inl u), (5, .inl v)], [], h) := by
  intro d
  induction d with
  | zero =>
    intro f v hd hv hf hI hK
    obtain ⟨hs, ⟨hn1, hn2⟩, e1, e2, e3, e5⟩ := id hB
    have hr := mt_rd_or hs
    obtain ⟨ra, rb, rc, rl, rk⟩ := id hR
    refine pg_br 4 (L := []) (P := pg_inR v ∧ pg_inR (h 4 2)) (c := (h 4 2) ≤ v) (st1 := (70, [(0, .inr (.inr 10)), (1, .inl k), (2, .inl j), (3, .inl f), (4, .inl u), (5, .inl v)], [], h)) (st2 := (32, [(0, .inr (.inr 10)), (1, .inl k), (2, .inl j), (3, .inl f), (4, .inl u), (5, .inl v)], [], h)) rfl trivial ⟨⟨by omega, by omega⟩, ⟨by omega, by omega⟩⟩ (fun c_29_1 => ?_) (fun c_29_1 => ?_)
    · refine pg_pick [0, 1, 2, 3, 4] rfl ?_
      exact hK f hf (by rw [show n = v by omega]; rw [show v = n by omega] at hI ⊢; exact hI)
    · exact (by exfalso; omega)
  | succ d ih =>
    intro f v hd hv hf hI hK
    obtain ⟨hs, ⟨hn1, hn2⟩, e1, e2, e3, e5⟩ := id hB
    have hr := mt_rd_or hs
    obtain ⟨ra, rb, rc, rl, rk⟩ := id hR
    have h0 : 0 ≤ u * n := Int.mul_nonneg hu.1 (by omega)
    have hbo := pg_b_or (sy_P h k u v)
    have hbd := pg_cn_bd (sy_Pm h n k) (u * n + v).toNat
    have ek : (u * n + (v + 1)).toNat = (u * n + v).toNat + 1 := by omega
    have hat := sy_Pm_at (h := h) (k := k) hn1 hu.1 (v := v) ⟨by omega, by omega⟩
    have ecn : pg_cn (sy_Pm h n k) (u * n + (v + 1)).toNat = pg_cn (sy_Pm h n k) (u * n + v).toNat + pg_b (sy_P h k u v) := by rw [ek]; simp only [pg_cn]; rw [pg_b_iff hat]
    refine pg_br 4 (L := []) (P := pg_inR v ∧ pg_inR (h 4 2)) (c := (h 4 2) ≤ v) (st1 := (70, [(0, .inr (.inr 10)), (1, .inl k), (2, .inl j), (3, .inl f), (4, .inl u), (5, .inl v)], [], h)) (st2 := (32, [(0, .inr (.inr 10)), (1, .inl k), (2, .inl j), (3, .inl f), (4, .inl u), (5, .inl v)], [], h)) rfl trivial ⟨⟨by omega, by omega⟩, ⟨by omega, by omega⟩⟩ (fun c_29_2 => ?_) (fun c_29_2 => ?_)
    · exact (by exfalso; omega)
    · refine pg_ca 4 (L := []) (Mc := pm_S_contains) (as := [.inr (.inr 10), .inl k, .inl u, .inl v]) (h0 := h) (pc := 41) (lv := [(0, .inr (.inr 10)), (1, .inl k), (2, .inl j), (3, .inl f), (4, .inl u), (5, .inl v)]) (rest := []) rfl trivial (cs_contains hB hR k u v ⟨by omega, by omega⟩ ⟨by omega, by omega⟩ ⟨by omega, by omega⟩) ?_
      intro r_1 h_1 e_1; rw [e_1.1, e_1.2]
      refine pg_br 0 (L := []) (P := pg_inR (pg_b (sy_P h k u v))) (c := (pg_b (sy_P h k u v)) = 0) (st1 := (64, [(0, .inr (.inr 10)), (1, .inl k), (2, .inl j), (3, .inl f), (4, .inl u), (5, .inl v)], [], h)) (st2 := (44, [(0, .inr (.inr 10)), (1, .inl k), (2, .inl j), (3, .inl f), (4, .inl u), (5, .inl v)], [], h)) rfl trivial ⟨by omega, by omega⟩ (fun c_41_3 => ?_) (fun c_41_3 => ?_)
      · refine pg_go 2 (L := []) (st' := (20, [(0, .inr (.inr 10)), (1, .inl k), (2, .inl j), (3, .inl f), (4, .inl u), (5, .inl (v + 1))], [], h)) rfl trivial ?_
        exact ih _ _ (by omega) (by omega) (by omega) (by omega) hK
      · refine pg_br 1 (L := []) (P := pg_inR f) (c := ¬ f = 0) (st1 := (61, [(0, .inr (.inr 10)), (1, .inl k), (2, .inl j), (3, .inl f), (4, .inl u), (5, .inl v)], [], h)) (st2 := (48, [(0, .inr (.inr 10)), (1, .inl k), (2, .inl j), (3, .inl f), (4, .inl u), (5, .inl v)], [], h)) rfl trivial ⟨by omega, by omega⟩ (fun c_45_4 => ?_) (fun c_45_4 => ?_)
        · refine pg_go 3 (L := []) (st' := (20, [(0, .inr (.inr 10)), (1, .inl k), (2, .inl j), (3, .inl (f + (-1))), (4, .inl u), (5, .inl (v + 1))], [], h)) rfl trivial ?_
          exact ih _ _ (by omega) (by omega) (by omega) (by omega) hK
        · refine pg_ca 5 (L := []) (Mc := pm_M_code) (as := [.inr (.inr 4), .inl k, .inl u, .inl v]) (h0 := h) (pc := 60) (lv := [(0, .inr (.inr 10)), (1, .inl k), (2, .inl j), (3, .inl f), (4, .inl u), (5, .inl v)]) (rest := []) rfl trivial (cm_code hB k u v ⟨by omega, by omega⟩ ⟨by omega, by omega⟩) ?_
          intro r_1 h_1 e_1; rw [e_1.1, e_1.2]
          refine pg_re 0 (L := []) (r := some (.inl (mt_cd n k u v))) (h0 := h) rfl trivial ?_
          refine ⟨Or.inl ⟨(u * n + v).toNat, ?_, ?_, by omega, ?_⟩, rfl⟩
          · have := mt_pt_bd hn1 hn2 (x := v) (y := u) ⟨by omega, by omega⟩ hu; unfold mt_pt at this; omega
          · rcases hbo with hq | hq
            · exact hat.mpr hq.1
            · omega
          · rw [show (((u * n + v).toNat : Nat) : Int) = u * n + v by omega, (mt_dm hn1 ⟨by omega, by omega⟩).1, (mt_dm hn1 ⟨by omega, by omega⟩).2]
theorem cs_no_u {h : pg_H} {s n : Int} (hB : cm_B h s n) (hR : sy_R h s) {k j : Int} (hk : 0 ≤ k ∧ k < 2 * mt_rd s) (hj : 0 ≤ j ∧ j < 100000) : ∀ (d : Nat) (f u : Int) (hd : u + (d : Int) = n) (hu : 0 ≤ u) (hf : 0 ≤ f) (hI : pg_cn (sy_Pm h n k) (u * n).toNat + f = j), pg_Good true pm_S_numberedOf (fun r h' => ((∃ m : Nat, (m : Int) < n * n ∧ sy_Pm h n k m ∧ pg_cn (sy_Pm h n k) m = j ∧ r = some (.inl (mt_cd n k ((m : Int) / n) ((m : Int) % n)))) ∨ (pg_cn (sy_Pm h n k) (n * n).toNat ≤ j ∧ r = some (.inl (-1)))) ∧ h' = h) (5, [(0, .inr (.inr 10)), (1, .inl k), (2, .inl j), (3, .inl f), (4, .inl u)], [], h) := by
  intro d
  induction d with
  | zero =>
    intro f u hd hu hf hI
    obtain ⟨hs, ⟨hn1, hn2⟩, e1, e2, e3, e5⟩ := id hB
    have hr := mt_rd_or hs
    obtain ⟨ra, rb, rc, rl, rk⟩ := id hR
    refine pg_br 4 (L := []) (P := pg_inR u ∧ pg_inR (h 4 2)) (c := (h 4 2) ≤ u) (st1 := (76, [(0, .inr (.inr 10)), (1, .inl k), (2, .inl j), (3, .inl f), (4, .inl u)], [], h)) (st2 := (17, [(0, .inr (.inr 10)), (1, .inl k), (2, .inl j), (3, .inl f), (4, .inl u)], [], h)) rfl trivial ⟨⟨by omega, by omega⟩, ⟨by omega, by omega⟩⟩ (fun c_14_1 => ?_) (fun c_14_1 => ?_)
    · refine pg_re 1 (L := []) (r := some (.inl (-1))) (h0 := h) rfl trivial ?_
      refine ⟨Or.inr ⟨?_, rfl⟩, rfl⟩
      rw [show u = n by omega] at hI
      omega
    · exact (by exfalso; omega)
  | succ d ih =>
    intro f u hd hu hf hI
    obtain ⟨hs, ⟨hn1, hn2⟩, e1, e2, e3, e5⟩ := id hB
    have hr := mt_rd_or hs
    obtain ⟨ra, rb, rc, rl, rk⟩ := id hR
    refine pg_br 4 (L := []) (P := pg_inR u ∧ pg_inR (h 4 2)) (c := (h 4 2) ≤ u) (st1 := (76, [(0, .inr (.inr 10)), (1, .inl k), (2, .inl j), (3, .inl f), (4, .inl u)], [], h)) (st2 := (17, [(0, .inr (.inr 10)), (1, .inl k), (2, .inl j), (3, .inl f), (4, .inl u)], [], h)) rfl trivial ⟨⟨by omega, by omega⟩, ⟨by omega, by omega⟩⟩ (fun c_14_2 => ?_) (fun c_14_2 => ?_)
    · exact (by exfalso; omega)
    · refine pg_go 2 (L := []) (st' := (20, [(0, .inr (.inr 10)), (1, .inl k), (2, .inl j), (3, .inl f), (4, .inl u), (5, .inl 0)], [], h)) rfl trivial ?_
      refine cs_no_v hB hR hk hj (u := u) ⟨by omega, by omega⟩ n.toNat _ _ (by omega) (by omega) hf (by rw [Int.add_zero]; exact hI) (fun f2 hf2 hI2 => ?_)
      refine pg_go 2 (L := []) (st' := (5, [(0, .inr (.inr 10)), (1, .inl k), (2, .inl j), (3, .inl f2), (4, .inl (u + 1))], [], h)) rfl trivial ?_
      exact ih _ _ (by omega) (by omega) hf2 (by rw [Int.add_mul, Int.one_mul]; exact hI2)
theorem cs_no {h : pg_H} {s n : Int} (hB : cm_B h s n) (hR : sy_R h s) {k j : Int} (hk : 0 ≤ k ∧ k < 2 * mt_rd s) (hj : 0 ≤ j ∧ j < 100000) : pg_Sem true pm_S_numberedOf [.inr (.inr 10), .inl k, .inl j] h (fun r h' => ((∃ m : Nat, (m : Int) < n * n ∧ sy_Pm h n k m ∧ pg_cn (sy_Pm h n k) m = j ∧ r = some (.inl (mt_cd n k ((m : Int) / n) ((m : Int) % n)))) ∨ (pg_cn (sy_Pm h n k) (n * n).toNat ≤ j ∧ r = some (.inl (-1)))) ∧ h' = h) := by
  obtain ⟨hs, ⟨hn1, hn2⟩, e1, e2, e3, e5⟩ := id hB
  have hr := mt_rd_or hs
  obtain ⟨ra, rb, rc, rl, rk⟩ := id hR
  refine pg_Sem_of pm_S_numberedOf_f rfl ?_
  refine pg_go 4 (L := []) (st' := (5, [(0, .inr (.inr 10)), (1, .inl k), (2, .inl j), (3, .inl j), (4, .inl 0)], [], h)) rfl trivial ?_
  exact cs_no_u hB hR hk hj n.toNat _ _ (by omega) (by omega) hj.1 (by rw [Int.zero_mul]; show 0 + j = j; omega)
/-- move m of a cell: may the point an go there, and does the move take COLOURS to COLOURS -/
def sy_Cm (h : pg_H) (s n k an : Int) (m : Nat) : Prop := h 8 (h 7 (mt_tg s n k ((m : Int) / h 10 6) ((m : Int) % h 10 6) (an % n) (an / n)).toNat).toNat = h 8 (h 7 an.toNat).toNat ∧ mt_con (h 7) s n k ((m : Int) / h 10 6) ((m : Int) % h 10 6)
theorem sy_Cm_at {h : pg_H} {s n k an u v : Int} (hc : 1 ≤ h 10 6) (hu : 0 ≤ u) (hv : 0 ≤ v ∧ v < h 10 6) : sy_Cm h s n k an (u * h 10 6 + v).toNat ↔ (h 8 (h 7 (mt_tg s n k u v (an % n) (an / n)).toNat).toNat = h 8 (h 7 an.toNat).toNat ∧ mt_con (h 7) s n k u v) := by
  have h0 : 0 ≤ u * h 10 6 := Int.mul_nonneg hu (by omega)
  unfold sy_Cm
  rw [show (((u * h 10 6 + v).toNat : Nat) : Int) = u * h 10 6 + v by omega, (mt_dm hc hv).1, (mt_dm hc hv).2]
set_option maxHeartbeats 4000000 in
theorem cs_co_v {h : pg_H} {s n : Int} (hB : cm_B h s n) (hR : sy_R h s) (hC : cp_C h) (hS : cp_S h n) {k an : Int} (hk : 0 ≤ k ∧ k < 2 * mt_rd s) (han : 0 ≤ an ∧ an < n * n) {u : Int} (hu : 0 ≤ u ∧ u < h 10 4) : ∀ (d : Nat) (g : pg_H) (f v : Int) (hd : v + (d : Int) = h 10 6) (hv : 0 ≤ v) (hf : pg_fr [9] h g) (hI : f = pg_cn (sy_Cm h s n k an) (u * h 10 6 + v).toNat) (hK : ∀ (g2 : pg_H) (f2 : Int), pg_fr [9] h g2 → f2 = pg_cn (sy_Cm h s n k an) (u * h 10 6 + h 10 6).toNat → pg_Good true pm_S_changesOf (fun r h' => r = some (.inl (pg_cn (sy_Cm h s n k an) (h 10 4 * h 10 6).toNat)) ∧ pg_fr [9] h h') (129, [(0, .inr (.inr 10)), (1, .inl k), (2, .inl an), (3, .inl (an % n)), (4, .inl (an / n)), (5, .inl (h 8 (h 7 an.toNat).toNat)), (6, .inl f2), (7, .inl u)], [], g2)), pg_Good true pm_S_changesOf (fun r h' => r = some (.inl (pg_cn (sy_Cm h s n k an) (h 10 4 * h 10 6).toNat)) ∧ pg_fr [9] h h') (56, [(0, .inr (.inr 10)), (1, .inl k), (2, .inl an), (3, .inl (an % n)), (4, .inl (an / n)), (5, .inl (h 8 (h 7 an.toNat).toNat)), (6, .inl f), (7, .inl u), (8, .inl v)], [], g) := by
  intro d
  induction d with
  | zero =>
    intro g f v hd hv hf hI hK
    obtain ⟨hs, ⟨hn1, hn2⟩, e1, e2, e3, e5⟩ := id hB
    have hr := mt_rd_or hs
    obtain ⟨ra, rb, rc, rl, rk⟩ := id hR
    have hnn := mt_nn hn1 hn2
    have hx := mt_mod hn1 an
    have hy := mt_row_bd hn1 han
    have hSb := cp_S_bd hS (by omega)
    have hBg := cm_B_fr hB hf (by decide) (by decide)
    have hCg := cp_C_fr hC hf (by decide)
    have g10 : g 10 = h 10 := hf 10 (by decide)
    have g7 : g 7 = h 7 := hf 7 (by decide)
    have g8 : g 8 = h 8 := hf 8 (by decide)
    have g104 : g 10 4 = h 10 4 := by rw [g10]
    have g106 : g 10 6 = h 10 6 := by rw [g10]
    refine pg_br 3 (L := []) (P := pg_inR v ∧ pg_inR (g 10 6)) (c := (g 10 6) ≤ v) (st1 := (129, [(0, .inr (.inr 10)), (1, .inl k), (2, .inl an), (3, .inl (an % n)), (4, .inl (an / n)), (5, .inl (h 8 (h 7 an.toNat).toNat)), (6, .inl f), (7, .inl u), (8, .inl v)], [], g)) (st2 := (65, [(0, .inr (.inr 10)), (1, .inl k), (2, .inl an), (3, .inl (an % n)), (4, .inl (an / n)), (5, .inl (h 8 (h 7 an.toNat).toNat)), (6, .inl f), (7, .inl u), (8, .inl v)], [], g)) rfl trivial ⟨⟨by omega, by omega⟩, ⟨by omega, by omega⟩⟩ (fun c_62_1 => ?_) (fun c_62_1 => ?_)
    · refine pg_pick [0, 1, 2, 3, 4, 5, 6, 7] rfl ?_
      exact hK g f hf (by rw [hI, show v = h 10 6 by omega])
    · exact (by exfalso; omega)
  | succ d ih =>
    intro g f v hd hv hf hI hK
    obtain ⟨hs, ⟨hn1, hn2⟩, e1, e2, e3, e5⟩ := id hB
    have hr := mt_rd_or hs
    obtain ⟨ra, rb, rc, rl, rk⟩ := id hR
    have hnn := mt_nn hn1 hn2
    have hx := mt_mod hn1 an
    have hy := mt_row_bd hn1 han
    have hSb := cp_S_bd hS (by omega)
    have hBg := cm_B_fr hB hf (by decide) (by decide)
    have hCg := cp_C_fr hC hf (by decide)
    have g10 : g 10 = h 10 := hf 10 (by decide)
    have g7 : g 7 = h 7 := hf 7 (by decide)
    have g8 : g 8 = h 8 := hf 8 (by decide)
    have g104 : g 10 4 = h 10 4 := by rw [g10]
    have g106 : g 10 6 = h 10 6 := by rw [g10]
    have h0 : 0 ≤ u * h 10 6 := Int.mul_nonneg hu.1 (by omega)
    have ht := mt_tg_bd (s := s) (k := k) (u := u) (v := v) (x := an % n) (y := an / n) hn1 hn2
    have c1 : 0 ≤ g 7 (mt_tg s n k u v (an % n) (an / n)).toNat ∧ g 7 (mt_tg s n k u v (an % n) (an / n)).toNat ≤ 9 := by rw [g7]; exact hC _ (by omega)
    have c2 := hC an.toNat (by omega)
    have s1 : 0 ≤ g 8 (g 7 (mt_tg s n k u v (an % n) (an / n)).toNat).toNat ∧ g 8 (g 7 (mt_tg s n k u v (an % n) (an / n)).toNat).toNat ≤ 1000 := by rw [g8]; exact hSb _ (by omega)
    have s2 := hSb (h 7 an.toNat).toNat (by omega)
    have hbo := pg_b_or (mt_con (h 7) s n k u v)
    have ek : (u * h 10 6 + (v + 1)).toNat = (u * h 10 6 + v).toNat + 1 := by omega
    have hat := sy_Cm_at (h := h) (s := s) (n := n) (k := k) (an := an) rc.1 hu.1 (v := v) ⟨by omega, by omega⟩
    have ecn : pg_cn (sy_Cm h s n k an) (u * h 10 6 + (v + 1)).toNat = f + pg_b (h 8 (h 7 (mt_tg s n k u v (an % n) (an / n)).toNat).toNat = h 8 (h 7 an.toNat).toNat ∧ mt_con (h 7) s n k u v) := by rw [ek, hI]; simp only [pg_cn]; rw [pg_b_iff hat]
    refine pg_br 3 (L := []) (P := pg_inR v ∧ pg_inR (g 10 6)) (c := (g 10 6) ≤ v) (st1 := (129, [(0, .inr (.inr 10)), (1, .inl k), (2, .inl an), (3, .inl (an % n)), (4, .inl (an / n)), (5, .inl (h 8 (h 7 an.toNat).toNat)), (6, .inl f), (7, .inl u), (8, .inl v)], [], g)) (st2 := (65, [(0, .inr (.inr 10)), (1, .inl k), (2, .inl an), (3, .inl (an % n)), (4, .inl (an / n)), (5, .inl (h 8 (h 7 an.toNat).toNat)), (6, .inl f), (7, .inl u), (8, .inl v)], [], g)) rfl trivial ⟨⟨by omega, by omega⟩, ⟨by omega, by omega⟩⟩ (fun c_62_2 => ?_) (fun c_62_2 => ?_)
    · exact (by exfalso; omega)
    · refine pg_ca 10 (L := []) (Mc := pm_M_target) (as := [.inr (.inr 4), .inl k, .inl u, .inl v, .inl (an % n), .inl (an / n)]) (h0 := g) (pc := 87) (lv := [(0, .inr (.inr 10)), (1, .inl k), (2, .inl an), (3, .inl (an % n)), (4, .inl (an / n)), (5, .inl (h 8 (h 7 an.toNat).toNat)), (6, .inl f), (7, .inl u), (8, .inl v)]) (rest := [.inr (.inr 7)]) rfl trivial (cm_target hBg k u v (an % n) (an / n) ⟨by omega, by omega⟩ ⟨by omega, by omega⟩ ⟨by omega, by omega⟩ ⟨by omega, by omega⟩ ⟨by omega, by omega⟩) ?_
      intro r_1 h_1 e_1; rw [e_1.1, e_1.2]
      refine pg_br 8 (L := [0 ≤ (mt_tg s n k u v (an % n) (an / n)) ∧ (mt_tg s n k u v (an % n) (an / n)) < (144 : Int), 0 ≤ (g 7 ((mt_tg s n k u v (an % n) (an / n)).toNat)) ∧ (g 7 ((mt_tg s n k u v (an % n) (an / n)).toNat)) < (10 : Int)]) (P := pg_inR (g 8 ((g 7 ((mt_tg s n k u v (an % n) (an / n)).toNat)).toNat)) ∧ pg_inR (h 8 (h 7 an.toNat).toNat)) (c := ¬ (g 8 ((g 7 ((mt_tg s n k u v (an % n) (an / n)).toNat)).toNat)) = (h 8 (h 7 an.toNat).toNat)) (st1 := (123, [(0, .inr (.inr 10)), (1, .inl k), (2, .inl an), (3, .inl (an % n)), (4, .inl (an / n)), (5, .inl (h 8 (h 7 an.toNat).toNat)), (6, .inl f), (7, .inl u), (8, .inl v), (9, .inl (g 7 ((mt_tg s n k u v (an % n) (an / n)).toNat)))], [], g)) (st2 := (105, [(0, .inr (.inr 10)), (1, .inl k), (2, .inl an), (3, .inl (an % n)), (4, .inl (an / n)), (5, .inl (h 8 (h 7 an.toNat).toNat)), (6, .inl f), (7, .inl u), (8, .inl v), (9, .inl (g 7 ((mt_tg s n k u v (an % n) (an / n)).toNat)))], [], g)) rfl ⟨⟨by omega, by omega⟩, ⟨by omega, by omega⟩⟩ ⟨⟨by omega, by omega⟩, ⟨by omega, by omega⟩⟩ (fun c_102_3 => ?_) (fun c_102_3 => ?_)
      · refine pg_go 2 (L := []) (st' := (56, [(0, .inr (.inr 10)), (1, .inl k), (2, .inl an), (3, .inl (an % n)), (4, .inl (an / n)), (5, .inl (h 8 (h 7 an.toNat).toNat)), (6, .inl f), (7, .inl u), (8, .inl (v + 1)), (9, .inl (g 7 ((mt_tg s n k u v (an % n) (an / n)).toNat)))], [], g)) rfl trivial ?_
        refine pg_pick [0, 1, 2, 3, 4, 5, 6, 7, 8] rfl ?_
        refine ih _ _ _ (by omega) (by omega) (by assumption) ?_ hK
        rw [ecn]
        rw [g7, g8] at *
        first | (rw [pg_b_f (fun hz => by have := hz.1; omega)]; omega) | (rcases hbo with hq | hq; (· first | (exfalso; omega) | (rw [pg_b_t ⟨by omega, hq.1⟩])); (· first | (exfalso; omega) | (rw [pg_b_f (fun hz => hq.1 hz.2)]; omega)))
      · refine pg_ca 5 (L := []) (Mc := pm_C_changes) (as := [.inr (.inr 6), .inl k, .inl u, .inl v]) (h0 := g) (pc := 117) (lv := [(0, .inr (.inr 10)), (1, .inl k), (2, .inl an), (3, .inl (an % n)), (4, .inl (an / n)), (5, .inl (h 8 (h 7 an.toNat).toNat)), (6, .inl f), (7, .inl u), (8, .inl v), (9, .inl (g 7 ((mt_tg s n k u v (an % n) (an / n)).toNat)))]) (rest := []) rfl trivial (cp_changes hBg hCg (k := k) (u := u) (v := v) ⟨by omega, by omega⟩ ⟨by omega, by omega⟩ ⟨by omega, by omega⟩) ?_
        intro r_1 g2 e_1; obtain ⟨ef_, er_, -⟩ := e_1; rw [g7] at er_; rw [er_]; have hf2 := pg_fr_tr hf ef_ (by decide)
        refine pg_br 0 (L := []) (P := pg_inR (pg_b (mt_con (h 7) s n k u v))) (c := (pg_b (mt_con (h 7) s n k u v)) = 0) (st1 := (123, [(0, .inr (.inr 10)), (1, .inl k), (2, .inl an), (3, .inl (an % n)), (4, .inl (an / n)), (5, .inl (h 8 (h 7 an.toNat).toNat)), (6, .inl f), (7, .inl u), (8, .inl v), (9, .inl (g 7 ((mt_tg s n k u v (an % n) (an / n)).toNat)))], [], g2)) (st2 := (120, [(0, .inr (.inr 10)), (1, .inl k), (2, .inl an), (3, .inl (an % n)), (4, .inl (an / n)), (5, .inl (h 8 (h 7 an.toNat).toNat)), (6, .inl f), (7, .inl u), (8, .inl v), (9, .inl (g 7 ((mt_tg s n k u v (an % n) (an / n)).toNat)))], [], g2)) rfl trivial ⟨by omega, by omega⟩ (fun c_117_4 => ?_) (fun c_117_4 => ?_)
        · refine pg_go 2 (L := []) (st' := (56, [(0, .inr (.inr 10)), (1, .inl k), (2, .inl an), (3, .inl (an % n)), (4, .inl (an / n)), (5, .inl (h 8 (h 7 an.toNat).toNat)), (6, .inl f), (7, .inl u), (8, .inl (v + 1)), (9, .inl (g 7 ((mt_tg s n k u v (an % n) (an / n)).toNat)))], [], g2)) rfl trivial ?_
          refine pg_pick [0, 1, 2, 3, 4, 5, 6, 7, 8] rfl ?_
          refine ih _ _ _ (by omega) (by omega) (by assumption) ?_ hK
          rw [ecn]
          rw [g7, g8] at *
          first | (rw [pg_b_f (fun hz => by have := hz.1; omega)]; omega) | (rcases hbo with hq | hq; (· first | (exfalso; omega) | (rw [pg_b_t ⟨by omega, hq.1⟩])); (· first | (exfalso; omega) | (rw [pg_b_f (fun hz => hq.1 hz.2)]; omega)))
        · refine pg_go 3 (L := []) (st' := (56, [(0, .inr (.inr 10)), (1, .inl k), (2, .inl an), (3, .inl (an % n)), (4, .inl (an / n)), (5, .inl (h 8 (h 7 an.toNat).toNat)), (6, .inl (f + 1)), (7, .inl u), (8, .inl (v + 1)), (9, .inl (g 7 ((mt_tg s n k u v (an % n) (an / n)).toNat)))], [], g2)) rfl trivial ?_
          refine pg_pick [0, 1, 2, 3, 4, 5, 6, 7, 8] rfl ?_
          refine ih _ _ _ (by omega) (by omega) (by assumption) ?_ hK
          rw [ecn]
          rw [g7, g8] at *
          first | (rw [pg_b_f (fun hz => by have := hz.1; omega)]; omega) | (rcases hbo with hq | hq; (· first | (exfalso; omega) | (rw [pg_b_t ⟨by omega, hq.1⟩])); (· first | (exfalso; omega) | (rw [pg_b_f (fun hz => hq.1 hz.2)]; omega)))
theorem cs_co_u {h : pg_H} {s n : Int} (hB : cm_B h s n) (hR : sy_R h s) (hC : cp_C h) (hS : cp_S h n) {k an : Int} (hk : 0 ≤ k ∧ k < 2 * mt_rd s) (han : 0 ≤ an ∧ an < n * n) : ∀ (d : Nat) (g : pg_H) (f u : Int) (hd : u + (d : Int) = h 10 4) (hu : 0 ≤ u) (hf : pg_fr [9] h g) (hI : f = pg_cn (sy_Cm h s n k an) (u * h 10 6).toNat), pg_Good true pm_S_changesOf (fun r h' => r = some (.inl (pg_cn (sy_Cm h s n k an) (h 10 4 * h 10 6).toNat)) ∧ pg_fr [9] h h') (44, [(0, .inr (.inr 10)), (1, .inl k), (2, .inl an), (3, .inl (an % n)), (4, .inl (an / n)), (5, .inl (h 8 (h 7 an.toNat).toNat)), (6, .inl f), (7, .inl u)], [], g) := by
  intro d
  induction d with
  | zero =>
    intro g f u hd hu hf hI
    obtain ⟨hs, ⟨hn1, hn2⟩, e1, e2, e3, e5⟩ := id hB
    have hr := mt_rd_or hs
    obtain ⟨ra, rb, rc, rl, rk⟩ := id hR
    have hnn := mt_nn hn1 hn2
    have hx := mt_mod hn1 an
    have hy := mt_row_bd hn1 han
    have hSb := cp_S_bd hS (by omega)
    have hBg := cm_B_fr hB hf (by decide) (by decide)
    have hCg := cp_C_fr hC hf (by decide)
    have g10 : g 10 = h 10 := hf 10 (by decide)
    have g7 : g 7 = h 7 := hf 7 (by decide)
    have g8 : g 8 = h 8 := hf 8 (by decide)
    have g104 : g 10 4 = h 10 4 := by rw [g10]
    have g106 : g 10 6 = h 10 6 := by rw [g10]
    refine pg_br 3 (L := []) (P := pg_inR u ∧ pg_inR (g 10 4)) (c := (g 10 4) ≤ u) (st1 := (135, [(0, .inr (.inr 10)), (1, .inl k), (2, .inl an), (3, .inl (an % n)), (4, .inl (an / n)), (5, .inl (h 8 (h 7 an.toNat).toNat)), (6, .inl f), (7, .inl u)], [], g)) (st2 := (53, [(0, .inr (.inr 10)), (1, .inl k), (2, .inl an), (3, .inl (an % n)), (4, .inl (an / n)), (5, .inl (h 8 (h 7 an.toNat).toNat)), (6, .inl f), (7, .inl u)], [], g)) rfl trivial ⟨⟨by omega, by omega⟩, ⟨by omega, by omega⟩⟩ (fun c_50_1 => ?_) (fun c_50_1 => ?_)
    · refine pg_re 1 (L := []) (r := some (.inl f)) (h0 := g) rfl trivial ?_
      refine ⟨?_, hf⟩
      rw [hI, show u = h 10 4 by omega]
    · exact (by exfalso; omega)
  | succ d ih =>
    intro g f u hd hu hf hI
    obtain ⟨hs, ⟨hn1, hn2⟩, e1, e2, e3, e5⟩ := id hB
    have hr := mt_rd_or hs
    obtain ⟨ra, rb, rc, rl, rk⟩ := id hR
    have hnn := mt_nn hn1 hn2
    have hx := mt_mod hn1 an
    have hy := mt_row_bd hn1 han
    have hSb := cp_S_bd hS (by omega)
    have hBg := cm_B_fr hB hf (by decide) (by decide)
    have hCg := cp_C_fr hC hf (by decide)
    have g10 : g 10 = h 10 := hf 10 (by decide)
    have g7 : g 7 = h 7 := hf 7 (by decide)
    have g8 : g 8 = h 8 := hf 8 (by decide)
    have g104 : g 10 4 = h 10 4 := by rw [g10]
    have g106 : g 10 6 = h 10 6 := by rw [g10]
    refine pg_br 3 (L := []) (P := pg_inR u ∧ pg_inR (g 10 4)) (c := (g 10 4) ≤ u) (st1 := (135, [(0, .inr (.inr 10)), (1, .inl k), (2, .inl an), (3, .inl (an % n)), (4, .inl (an / n)), (5, .inl (h 8 (h 7 an.toNat).toNat)), (6, .inl f), (7, .inl u)], [], g)) (st2 := (53, [(0, .inr (.inr 10)), (1, .inl k), (2, .inl an), (3, .inl (an % n)), (4, .inl (an / n)), (5, .inl (h 8 (h 7 an.toNat).toNat)), (6, .inl f), (7, .inl u)], [], g)) rfl trivial ⟨⟨by omega, by omega⟩, ⟨by omega, by omega⟩⟩ (fun c_50_2 => ?_) (fun c_50_2 => ?_)
    · exact (by exfalso; omega)
    · refine pg_go 2 (L := []) (st' := (56, [(0, .inr (.inr 10)), (1, .inl k), (2, .inl an), (3, .inl (an % n)), (4, .inl (an / n)), (5, .inl (h 8 (h 7 an.toNat).toNat)), (6, .inl f), (7, .inl u), (8, .inl 0)], [], g)) rfl trivial ?_
      refine cs_co_v hB hR hC hS hk han (u := u) ⟨by omega, by omega⟩ (h 10 6).toNat g _ _ (by omega) (by omega) hf (by rw [Int.add_zero]; exact hI) (fun g2 f2 hf2 hI2 => ?_)
      refine pg_go 2 (L := []) (st' := (44, [(0, .inr (.inr 10)), (1, .inl k), (2, .inl an), (3, .inl (an % n)), (4, .inl (an / n)), (5, .inl (h 8 (h 7 an.toNat).toNat)), (6, .inl f2), (7, .inl (u + 1))], [], g2)) rfl trivial ?_
      exact ih g2 _ _ (by omega) (by omega) hf2 (by rw [Int.add_mul, Int.one_mul]; exact hI2)
theorem cs_co {h : pg_H} {s n : Int} (hB : cm_B h s n) (hR : sy_R h s) (hC : cp_C h) (hS : cp_S h n) {k an : Int} (hk : 0 ≤ k ∧ k < 2 * mt_rd s) (han : 0 ≤ an ∧ an < n * n) : pg_Sem true pm_S_changesOf [.inr (.inr 10), .inl k, .inl an] h (fun r h' => r = some (.inl (pg_cn (sy_Cm h s n k an) (h 10 4 * h 10 6).toNat)) ∧ pg_fr [9] h h') := by
  obtain ⟨hs, ⟨hn1, hn2⟩, e1, e2, e3, e5⟩ := id hB
  have hr := mt_rd_or hs
  obtain ⟨ra, rb, rc, rl, rk⟩ := id hR
  have hnn := mt_nn hn1 hn2
  have hx := mt_mod hn1 an
  have hy := mt_row_bd hn1 han
  have hSb := cp_S_bd hS (by omega)
  have c2 := hC an.toNat (by omega)
  refine pg_Sem_of pm_S_changesOf_f rfl ?_
  refine pg_ca 3 (L := []) (Mc := pm_M_columnOf) (as := [.inr (.inr 4), .inl an]) (h0 := h) (pc := 8) (lv := [(0, .inr (.inr 10)), (1, .inl k), (2, .inl an)]) (rest := []) rfl trivial (cm_columnOf hB an ⟨by omega, by omega⟩) ?_
  intro r_1 h_1 e_1; rw [e_1.1, e_1.2]
  refine pg_ca 4 (L := []) (Mc := pm_M_rowOf) (as := [.inr (.inr 4), .inl an]) (h0 := h) (pc := 17) (lv := [(0, .inr (.inr 10)), (1, .inl k), (2, .inl an), (3, .inl (an % n))]) (rest := []) rfl trivial (cm_rowOf hB an ⟨by omega, by omega⟩) ?_
  intro r_1 h_1 e_1; rw [e_1.1, e_1.2]
  refine pg_go 15 (L := [0 ≤ an ∧ an < (144 : Int), 0 ≤ (h 7 an.toNat) ∧ (h 7 an.toNat) < (10 : Int)]) (st' := (44, [(0, .inr (.inr 10)), (1, .inl k), (2, .inl an), (3, .inl (an % n)), (4, .inl (an / n)), (5, .inl (h 8 ((h 7 an.toNat).toNat))), (6, .inl 0), (7, .inl 0)], [], h)) rfl ⟨⟨by omega, by omega⟩, ⟨by omega, by omega⟩⟩ ?_
  exact cs_co_u hB hR hC hS hk han (h 10 4).toNat h _ _ (by omega) (by omega) (pg_fr_rf _ _) (by rw [Int.zero_mul]; rfl)
