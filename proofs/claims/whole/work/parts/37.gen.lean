/-! Symmetries: numbered; Generators -/
/-- what numbered finds -/
def sy_N (g : pg_H) (s n a z : Int) : Prop := (¬ (0 ≤ a ∧ a < g 10 7 * sy_sh g n) ∧ z = -1) ∨ ((0 ≤ a ∧ a < g 10 7 * sy_sh g n) ∧ ∃ k j : Int, (0 ≤ k ∧ k < 2 * mt_rd s) ∧ g 11 k.toNat ≠ -1 ∧ a = pg_cn (fun t => g 11 t ≠ -1) k.toNat * sy_sh g n + j ∧ (0 ≤ j ∧ j < sy_sh g n) ∧ ((∃ m : Nat, (m : Int) < n * n ∧ sy_Pm g n k m ∧ pg_cn (sy_Pm g n k) m = j ∧ z = mt_cd n k ((m : Int) / n) ((m : Int) % n)) ∨ (pg_cn (sy_Pm g n k) (n * n).toNat ≤ j ∧ z = -1)))
theorem cs_nb_l {g : pg_H} {s n : Int} (hB : cm_B g s n) (hR : sy_R g s) (hl : g 10 7 = pg_cn (fun t => g 11 t ≠ -1) (2 * mt_rd s).toNat) {a : Int} (ha : 0 ≤ a ∧ a < g 10 7 * sy_sh g n) : ∀ (d : Nat) (f k : Int) (hd : k + (d : Int) = 2 * mt_rd s) (hk : 0 ≤ k) (hf : 0 ≤ f) (hI : a = pg_cn (fun t => g 11 t ≠ -1) k.toNat * sy_sh g n + f), pg_Good true pm_S_numbered (fun r h' => ∃ z : Int, r = some (.inl z) ∧ h' = g ∧ sy_N g s n a z) (22, [(0, .inr (.inr 10)), (1, .inl a), (2, .inl f), (3, .inl k)], [], g) := by
  intro d
  induction d with
  | zero =>
    intro f k hd hk hf hI
    obtain ⟨hs, ⟨hn1, hn2⟩, e1, e2, e3, e5⟩ := id hB
    have hr := mt_rd_or hs
    obtain ⟨ra, rb, rc, rl, rk⟩ := id hR
    have hsh := sy_sh_bd hR ⟨hn1, hn2⟩
    have hab : g 10 7 * sy_sh g n ≤ 1728 := by have := Int.mul_le_mul rl.2 hsh.2 hsh.1 (show (0 : Int) ≤ 12 by decide); omega
    refine pg_ca 3 (L := []) (Mc := pm_M_linears) (as := [.inr (.inr 4)]) (h0 := g) (pc := 30) (lv := [(0, .inr (.inr 10)), (1, .inl a), (2, .inl f), (3, .inl k)]) (rest := [.inl k]) rfl trivial (cm_linears hB) ?_
    intro r_1 h_1 e_1; rw [e_1.1, e_1.2]
    refine pg_br 0 (L := []) (P := pg_inR k ∧ pg_inR (2 * mt_rd s)) (c := (2 * mt_rd s) ≤ k) (st1 := (71, [(0, .inr (.inr 10)), (1, .inl a), (2, .inl f), (3, .inl k)], [], g)) (st2 := (33, [(0, .inr (.inr 10)), (1, .inl a), (2, .inl f), (3, .inl k)], [], g)) rfl trivial ⟨⟨by omega, by omega⟩, ⟨by omega, by omega⟩⟩ (fun c_30_1 => ?_) (fun c_30_1 => ?_)
    · refine pg_re 1 (L := []) (r := some (.inl (-1))) (h0 := g) rfl trivial ?_
      exfalso
      rw [show k = 2 * mt_rd s by omega, ← hl] at hI
      omega
    · exact (by exfalso; omega)
  | succ d ih =>
    intro f k hd hk hf hI
    obtain ⟨hs, ⟨hn1, hn2⟩, e1, e2, e3, e5⟩ := id hB
    have hr := mt_rd_or hs
    obtain ⟨ra, rb, rc, rl, rk⟩ := id hR
    have hsh := sy_sh_bd hR ⟨hn1, hn2⟩
    have hab : g 10 7 * sy_sh g n ≤ 1728 := by have := Int.mul_le_mul rl.2 hsh.2 hsh.1 (show (0 : Int) ≤ 12 by decide); omega
    have r1 := rk k.toNat (by omega)
    have ek : (k + 1).toNat = k.toNat + 1 := by omega
    have hcn := pg_cn_bd (fun t => g 11 t ≠ -1) k.toNat
    have hmn : 0 ≤ pg_cn (fun t => g 11 t ≠ -1) k.toNat * sy_sh g n := Int.mul_nonneg hcn.1 hsh.1
    refine pg_ca 3 (L := []) (Mc := pm_M_linears) (as := [.inr (.inr 4)]) (h0 := g) (pc := 30) (lv := [(0, .inr (.inr 10)), (1, .inl a), (2, .inl f), (3, .inl k)]) (rest := [.inl k]) rfl trivial (cm_linears hB) ?_
    intro r_1 h_1 e_1; rw [e_1.1, e_1.2]
    refine pg_br 0 (L := []) (P := pg_inR k ∧ pg_inR (2 * mt_rd s)) (c := (2 * mt_rd s) ≤ k) (st1 := (71, [(0, .inr (.inr 10)), (1, .inl a), (2, .inl f), (3, .inl k)], [], g)) (st2 := (33, [(0, .inr (.inr 10)), (1, .inl a), (2, .inl f), (3, .inl k)], [], g)) rfl trivial ⟨⟨by omega, by omega⟩, ⟨by omega, by omega⟩⟩ (fun c_30_2 => ?_) (fun c_30_2 => ?_)
    · exact (by exfalso; omega)
    · refine pg_br 5 (L := [0 ≤ k ∧ k < (12 : Int)]) (P := pg_inR (g 11 k.toNat) ∧ pg_inR (-1)) (c := (g 11 k.toNat) = (-1)) (st1 := (65, [(0, .inr (.inr 10)), (1, .inl a), (2, .inl f), (3, .inl k)], [], g)) (st2 := (43, [(0, .inr (.inr 10)), (1, .inl a), (2, .inl f), (3, .inl k)], [], g)) rfl ⟨by omega, by omega⟩ ⟨⟨by omega, by omega⟩, ⟨by decide, by decide⟩⟩ (fun c_40_3 => ?_) (fun c_40_3 => ?_)
      · refine pg_go 2 (L := []) (st' := (22, [(0, .inr (.inr 10)), (1, .inl a), (2, .inl f), (3, .inl (k + 1))], [], g)) rfl trivial ?_
        refine ih _ _ (by omega) (by omega) (by omega) ?_
        rw [ek]
        simp only [pg_cn]
        first | (rw [pg_b_f (by omega), Int.add_zero]; omega) | (rw [pg_b_t (by omega), Int.add_mul, Int.one_mul]; omega)
      · refine pg_ca 2 (L := []) (Mc := pm_S_shifts) (as := [.inr (.inr 10)]) (h0 := g) (pc := 48) (lv := [(0, .inr (.inr 10)), (1, .inl a), (2, .inl f), (3, .inl k)]) (rest := [.inl f]) rfl trivial (cs_shifts hB hR) ?_
        intro r_1 h_1 e_1; rw [e_1.1, e_1.2]
        refine pg_br 0 (L := []) (P := pg_inR f ∧ pg_inR (sy_sh g n)) (c := (sy_sh g n) ≤ f) (st1 := (58, [(0, .inr (.inr 10)), (1, .inl a), (2, .inl f), (3, .inl k)], [], g)) (st2 := (51, [(0, .inr (.inr 10)), (1, .inl a), (2, .inl f), (3, .inl k)], [], g)) rfl trivial ⟨⟨by omega, by omega⟩, ⟨by omega, by omega⟩⟩ (fun c_48_4 => ?_) (fun c_48_4 => ?_)
        · refine pg_ca 2 (L := []) (Mc := pm_S_shifts) (as := [.inr (.inr 10)]) (h0 := g) (pc := 63) (lv := [(0, .inr (.inr 10)), (1, .inl a), (2, .inl f), (3, .inl k)]) (rest := [.inl f]) rfl trivial (cs_shifts hB hR) ?_
          intro r_1 h_1 e_1; rw [e_1.1, e_1.2]
          refine pg_go 4 (L := []) (st' := (22, [(0, .inr (.inr 10)), (1, .inl a), (2, .inl (f - (sy_sh g n))), (3, .inl (k + 1))], [], g)) rfl trivial ?_
          refine ih _ _ (by omega) (by omega) (by omega) ?_
          rw [ek]
          simp only [pg_cn]
          first | (rw [pg_b_f (by omega), Int.add_zero]; omega) | (rw [pg_b_t (by omega), Int.add_mul, Int.one_mul]; omega)
        · refine pg_ca 3 (L := []) (Mc := pm_S_numberedOf) (as := [.inr (.inr 10), .inl k, .inl f]) (h0 := g) (pc := 57) (lv := [(0, .inr (.inr 10)), (1, .inl a), (2, .inl f), (3, .inl k)]) (rest := []) rfl trivial (cs_no hB hR (k := k) (j := f) ⟨by omega, by omega⟩ ⟨by omega, by omega⟩) ?_
          intro r_1 h_1 e_1; obtain ⟨eo_, eh_⟩ := e_1; rw [eh_]
          have hfin : ∃ z : Int, r_1 = some (.inl z) ∧ ((∃ m : Nat, (m : Int) < n * n ∧ sy_Pm g n k m ∧ pg_cn (sy_Pm g n k) m = f ∧ z = mt_cd n k ((m : Int) / n) ((m : Int) % n)) ∨ (pg_cn (sy_Pm g n k) (n * n).toNat ≤ f ∧ z = -1)) := by
            rcases eo_ with ⟨m, q1, q2, q3, q4⟩ | ⟨q1, q2⟩
            · exact ⟨_, q4, Or.inl ⟨m, q1, q2, q3, rfl⟩⟩
            · exact ⟨_, q2, Or.inr ⟨q1, rfl⟩⟩
          obtain ⟨z_, er_, hz_⟩ := hfin
          rw [er_]
          refine pg_re 0 (L := []) (r := some (.inl z_)) (h0 := g) rfl trivial ?_
          exact ⟨_, rfl, rfl, Or.inr ⟨ha, k, f, ⟨by omega, by omega⟩, by omega, hI, ⟨by omega, by omega⟩, hz_⟩⟩
theorem cq_nb {h : pg_H} {s n : Int} (hQ : cq_I h s n) (a : Int) (ha : pg_inR a) : pg_Sem true pm_S_numbered [.inr (.inr 10), .inl a] h (fun r h' => ∃ z : Int, r = some (.inl z) ∧ pg_fr [10, 11, 12] h h' ∧ cq_J h' s n ∧ sy_eq h h' ∧ sy_N h' s n a z) := by
  obtain ⟨ha1, ha2⟩ := ha
  refine pg_Sem_of pm_S_numbered_f rfl ?_
  refine pg_ca 1 (L := []) (Mc := pm_S_study) (as := [.inr (.inr 10)]) (h0 := h) (pc := 4) (lv := [(0, .inr (.inr 10)), (1, .inl a)]) (rest := []) rfl trivial (cq_study hQ) ?_
  intro r_1 g e_1; obtain ⟨er_, ef_, hJ, hse⟩ := e_1; rw [er_]; obtain ⟨hQg, hk_, hD_⟩ := id hJ; obtain ⟨hBg, hCg, hSg, -, -⟩ := id hQg; obtain ⟨hs, ⟨hn1, hn2⟩, -⟩ := id hBg; have hR := sy_R_of hs hn2 hD_; have hr := mt_rd_or hs
  refine pg_br 1 (L := []) (P := pg_inR a) (c := a < 0) (st1 := (16, [(0, .inr (.inr 10)), (1, .inl a)], [], g)) (st2 := (8, [(0, .inr (.inr 10)), (1, .inl a)], [], g)) rfl trivial ⟨by omega, by omega⟩ (fun c_5_1 => ?_) (fun c_5_1 => ?_)
  · refine pg_re 1 (L := []) (r := some (.inl (-1))) (h0 := g) rfl trivial ?_
    exact ⟨-1, rfl, ef_, hJ, hse, Or.inl ⟨by first | omega | (have tb := sy_sh_bd hR ⟨hn1, hn2⟩; omega), rfl⟩⟩
  · refine pg_ca 2 (L := []) (Mc := pm_S_total) (as := [.inr (.inr 10)]) (h0 := g) (pc := 13) (lv := [(0, .inr (.inr 10)), (1, .inl a)]) (rest := [.inl a]) rfl trivial (cs_total hBg hR) ?_
    intro r_1 h_1 e_1; rw [e_1.1, e_1.2]
    have tb := sy_sh_bd hR ⟨hn1, hn2⟩
    have tl := hR.2.2.2.1
    have tt : 0 ≤ g 10 7 * sy_sh g n ∧ g 10 7 * sy_sh g n ≤ 1728 := ⟨Int.mul_nonneg tl.1 tb.1, by have := Int.mul_le_mul tl.2 tb.2 tb.1 (show (0 : Int) ≤ 12 by decide); omega⟩
    refine pg_br 0 (L := []) (P := pg_inR a ∧ pg_inR (g 10 7 * sy_sh g n)) (c := a < (g 10 7 * sy_sh g n)) (st1 := (18, [(0, .inr (.inr 10)), (1, .inl a)], [], g)) (st2 := (16, [(0, .inr (.inr 10)), (1, .inl a)], [], g)) rfl trivial ⟨⟨by omega, by omega⟩, ⟨by omega, by omega⟩⟩ (fun c_13_2 => ?_) (fun c_13_2 => ?_)
    · refine pg_go 4 (L := []) (st' := (22, [(0, .inr (.inr 10)), (1, .inl a), (2, .inl a), (3, .inl 0)], [], g)) rfl trivial ?_
      refine po_st_mono (cs_nb_l hBg hR hD_.2.2.2 (a := a) ⟨by omega, by omega⟩ (2 * mt_rd s).toNat _ _ (by omega) (by omega) (by omega) (by show a = 0 * _ + a; omega)) ?_
      rintro r h' ⟨z, e1, rfl, e3⟩
      exact ⟨z, e1, ef_, hJ, hse, e3⟩
    · refine pg_re 1 (L := []) (r := some (.inl (-1))) (h0 := g) rfl trivial ?_
      exact ⟨-1, rfl, ef_, hJ, hse, Or.inl ⟨by first | omega | (have tb := sy_sh_bd hR ⟨hn1, hn2⟩; omega), rfl⟩⟩
def gn_I (h : pg_H) (s n : Int) : Prop := (0 ≤ h 20 4 ∧ h 20 4 ≤ 6) ∧ ∀ j : Nat, (j : Int) < h 20 4 → 0 ≤ h 21 j ∧ h 21 j < 2 * mt_rd s * (n * n)
/-- where move a takes point p -/
def mt_go (s n a p : Int) : Int := mt_tg s n (a / (n * n)) (a / n % n) (a % n) (p % n) (p / n)
theorem gn_clear (h : pg_H) : pg_Sem true pm_N_clear [.inr (.inr 20)] h (fun r h' => r = none ∧ h' = pg_up h 20 4 0) := by
  refine pg_Sem_of pm_N_clear_f rfl ?_
  refine pg_re 3 (L := []) (r := none) (h0 := pg_up h 20 4 0) rfl trivial ?_
  exact ⟨rfl, rfl⟩
theorem gn_add {h : pg_H} {s n : Int} (hG : gn_I h s n) (a : Int) : pg_Sem true pm_N_add [.inr (.inr 20), .inl a] h (fun r h' => (h 20 4 = 6 ∧ r = some (.inl (-3)) ∧ h' = h) ∨ (h 20 4 < 6 ∧ r = some (.inl (h 20 4 + 1)) ∧ h' = pg_up (pg_up h 21 (h 20 4).toNat a) 20 4 (h 20 4 + 1))) := by
  have g1 := hG.1
  refine pg_Sem_of pm_N_add_f rfl ?_
  refine pg_br 3 (L := []) (P := pg_inR (h 20 4) ∧ pg_inR 6) (c := (h 20 4) < 6) (st1 := (12, [(0, .inr (.inr 20)), (1, .inl a)], [], h)) (st2 := (9, [(0, .inr (.inr 20)), (1, .inl a)], [], h)) rfl trivial ⟨⟨by omega, by omega⟩, ⟨by decide, by decide⟩⟩ (fun c_6_1 => ?_) (fun c_6_1 => ?_)
  · refine pg_re 14 (L := [0 ≤ (h 20 4) ∧ (h 20 4) < (6 : Int)]) (r := some (.inl ((h 20 4) + 1))) (h0 := pg_up (pg_up h 21 ((h 20 4).toNat) a) 20 4 ((h 20 4) + 1)) rfl ⟨by omega, by omega⟩ ?_
    exact Or.inr ⟨by omega, rfl, rfl⟩
  · refine pg_re 1 (L := []) (r := some (.inl (-3))) (h0 := h) rfl trivial ?_
    exact Or.inl ⟨by omega, rfl, rfl⟩
set_option maxHeartbeats 4000000 in
theorem gn_goal {h : pg_H} {s n : Int} (hB : cm_B h s n) (a p : Int) (ha : 0 ≤ a ∧ a < 2 * mt_rd s * (n * n)) (hp : 0 ≤ p ∧ p < n * n) : pg_Sem true pm_N_goalOf [.inr (.inr 20), .inl a, .inl p] h (fun r h' => r = some (.inl (mt_go s n a p)) ∧ h' = h) := by
  obtain ⟨hs, ⟨hn1, hn2⟩, e1, e2, e3, e5⟩ := id hB
  have hr := mt_rd_or hs
  have a1 := mt_kof hn1 ha
  have a2 := mt_mv_lt hs hn1 hn2 ha
  have a3 := mt_mod hn1 (a / n)
  have a4 := mt_mod hn1 a
  have p1 := mt_mod hn1 p
  have p2 := mt_row_bd hn1 hp
  have hnn := mt_nn hn1 hn2
  refine pg_Sem_of pm_N_goalOf_f rfl ?_
  refine pg_ca 6 (L := []) (Mc := pm_M_part) (as := [.inr (.inr 4), .inl a, .inl 0]) (h0 := h) (pc := 13) (lv := [(0, .inr (.inr 20)), (1, .inl a), (2, .inl p)]) (rest := [.inr (.inr 4)]) rfl trivial (cm_part hB a 0 ⟨by omega, by omega⟩ ⟨by omega, by omega⟩) ?_
  intro r_1 h_1 e_1; rw [e_1.1, e_1.2]
  refine pg_ca 4 (L := []) (Mc := pm_M_part) (as := [.inr (.inr 4), .inl a, .inl 1]) (h0 := h) (pc := 22) (lv := [(0, .inr (.inr 20)), (1, .inl a), (2, .inl p)]) (rest := [.inl (a / (n * n)), .inr (.inr 4)]) rfl trivial (cm_part hB a 1 ⟨by omega, by omega⟩ ⟨by omega, by omega⟩) ?_
  intro r_1 h_1 e_1; rw [e_1.1, e_1.2]
  refine pg_ca 4 (L := []) (Mc := pm_M_part) (as := [.inr (.inr 4), .inl a, .inl 2]) (h0 := h) (pc := 31) (lv := [(0, .inr (.inr 20)), (1, .inl a), (2, .inl p)]) (rest := [.inl (a / n % n), .inl (a / (n * n)), .inr (.inr 4)]) rfl trivial (cm_part hB a 2 ⟨by omega, by omega⟩ ⟨by omega, by omega⟩) ?_
  intro r_1 h_1 e_1; rw [e_1.1, e_1.2]
  refine pg_ca 3 (L := []) (Mc := pm_M_columnOf) (as := [.inr (.inr 4), .inl p]) (h0 := h) (pc := 39) (lv := [(0, .inr (.inr 20)), (1, .inl a), (2, .inl p)]) (rest := [.inl (a % n), .inl (a / n % n), .inl (a / (n * n)), .inr (.inr 4)]) rfl trivial (cm_columnOf hB p ⟨by omega, by omega⟩) ?_
  intro r_1 h_1 e_1; rw [e_1.1, e_1.2]
  refine pg_ca 3 (L := []) (Mc := pm_M_rowOf) (as := [.inr (.inr 4), .inl p]) (h0 := h) (pc := 47) (lv := [(0, .inr (.inr 20)), (1, .inl a), (2, .inl p)]) (rest := [.inl (p % n), .inl (a % n), .inl (a / n % n), .inl (a / (n * n)), .inr (.inr 4)]) rfl trivial (cm_rowOf hB p ⟨by omega, by omega⟩) ?_
  intro r_1 h_1 e_1; rw [e_1.1, e_1.2]
  refine pg_ca 0 (L := []) (Mc := pm_M_target) (as := [.inr (.inr 4), .inl (a / (n * n)), .inl (a / n % n), .inl (a % n), .inl (p % n), .inl (p / n)]) (h0 := h) (pc := 50) (lv := [(0, .inr (.inr 20)), (1, .inl a), (2, .inl p)]) (rest := []) rfl trivial (cm_target hB (a / (n * n)) (a / n % n) (a % n) (p % n) (p / n) ⟨by omega, by omega⟩ ⟨by omega, by omega⟩ ⟨by omega, by omega⟩ ⟨by omega, by omega⟩ ⟨by omega, by omega⟩) ?_
  intro r_1 h_1 e_1; rw [e_1.1, e_1.2]
  refine pg_re 0 (L := []) (r := some (.inl (mt_tg s n (a / (n * n)) (a / n % n) (a % n) (p % n) (p / n)))) (h0 := h) rfl trivial ?_
  exact ⟨rfl, rfl⟩
