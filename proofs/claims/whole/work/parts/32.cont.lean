/-! Symmetries: contains, fixes, counts -/
/-- (u, v) is (ac, al) and a sum of the steps (a, 0), (b, c) -/
def mt_in (a b c ac al u v : Int) : Prop := c ∣ (v - al) ∧ a ∣ (u - ac - (v - al) / c * b)
def sy_P (h : pg_H) (k u v : Int) : Prop := h 11 k.toNat ≠ -1 ∧ mt_in (h 10 4) (h 10 5) (h 10 6) (h 11 k.toNat) (h 12 k.toNat) u v
def sy_F (h : pg_H) (s k p q : Int) : Prop := h 11 k.toNat ≠ -1 ∧ 6 ∣ (p - mt_x s k p q) ∧ 6 ∣ (q - mt_y s k p q) ∧ mt_in (h 10 4) (h 10 5) (h 10 6) (h 11 k.toNat) (h 12 k.toNat) ((p - mt_x s k p q) / 6) ((q - mt_y s k p q) / 6)
/-- the bounds that study keeps -/
def sy_R (h : pg_H) (s : Int) : Prop := (1 ≤ h 10 4 ∧ h 10 4 ≤ 12) ∧ (0 ≤ h 10 5 ∧ h 10 5 ≤ 12) ∧ (1 ≤ h 10 6 ∧ h 10 6 ≤ 12) ∧ (0 ≤ h 10 7 ∧ h 10 7 ≤ 12) ∧ ∀ k : Nat, (k : Int) < 2 * mt_rd s → (-1 ≤ h 11 k ∧ h 11 k ≤ 12) ∧ (h 11 k ≠ -1 → 0 ≤ h 12 k ∧ h 12 k ≤ 12)
theorem sy_R_of {h : pg_H} {s n : Int} (hs : s = 0 ∨ s = 1) (hn : n ≤ 12) (hD : sy_D h s n) : sy_R h s := by
  obtain ⟨h1, h2, h3, h4⟩ := hD
  have a1 := h1.1
  have a2 := h2.1
  have a3 := h2.2.1
  have hr := mt_rd_or hs
  have h5 := pg_cn_bd (fun k => h 11 k ≠ -1) (2 * mt_rd s).toNat
  refine ⟨⟨by omega, by omega⟩, ⟨by omega, by omega⟩, ⟨by omega, by omega⟩, ⟨by omega, by omega⟩, fun k hk => ?_⟩
  rcases h3 k hk with ⟨b1, -⟩ | ⟨b1, b2, -⟩
  · exact ⟨by omega, fun h => absurd b1 h⟩
  · exact ⟨by omega, fun _ => by omega⟩
theorem pg_tdiv_bd {x c m : Int} (hc : 1 ≤ c) (hx : -m ≤ x ∧ x ≤ m) : -m ≤ Int.tdiv x c ∧ Int.tdiv x c ≤ m := by
  rcases Int.le_total 0 x with h | h
  · rw [pg_tdiv_nn h]
    have h1 := Int.ediv_nonneg h (show 0 ≤ c by omega)
    have h2 := Int.ediv_le_self c h
    omega
  · have e : Int.tdiv x c = -((-x) / c) := by
      rw [← pg_tdiv_nn (show 0 ≤ -x by omega), Int.neg_tdiv, Int.neg_neg]
    have h1 := Int.ediv_nonneg (show 0 ≤ -x by omega) (show 0 ≤ c by omega)
    have h2 := Int.ediv_le_self c (show 0 ≤ -x by omega)
    omega
theorem pg_mul12 {q b m : Int} (hq : -m ≤ q ∧ q ≤ m) (hb : 0 ≤ b ∧ b ≤ 12) : -(12 * m) ≤ q * b ∧ q * b ≤ 12 * m := by
  have : b = 0 ∨ b = 1 ∨ b = 2 ∨ b = 3 ∨ b = 4 ∨ b = 5 ∨ b = 6 ∨ b = 7 ∨ b = 8 ∨ b = 9 ∨ b = 10 ∨ b = 11 ∨ b = 12 := by omega
  rcases this with rfl | rfl | rfl | rfl | rfl | rfl | rfl | rfl | rfl | rfl | rfl | rfl | rfl <;> omega
theorem pg_tm0 {x c : Int} : Int.tmod x c = 0 ↔ c ∣ x := ⟨Int.dvd_of_tmod_eq_zero, Int.tmod_eq_zero_of_dvd⟩
theorem pg_tdd {x c : Int} (h : c ∣ x) : Int.tdiv x c = x / c := Int.tdiv_eq_ediv_of_dvd h
set_option maxHeartbeats 4000000 in
theorem cs_contains {h : pg_H} {s n : Int} (hB : cm_B h s n) (hR : sy_R h s) (k u v : Int) (hk : 0 ≤ k ∧ k < 2 * mt_rd s) (hu : -1000 ≤ u ∧ u ≤ 1000) (hv : -1000 ≤ v ∧ v ≤ 1000) : pg_Sem true pm_S_contains [.inr (.inr 10), .inl k, .inl u, .inl v] h (fun r h' => r = some (.inl (pg_b (sy_P h k u v))) ∧ h' = h) := by
  obtain ⟨hs, ⟨hn1, hn2⟩, e1, e2, e3, e5⟩ := id hB
  have hr := mt_rd_or hs
  obtain ⟨ra, rb, rc, rl, rk⟩ := id hR
  have r1 := rk k.toNat (by omega)
  have q1 := fun (hx : h 11 k.toNat ≠ -1) => pg_tdiv_bd (x := v - h 12 k.toNat) (c := h 10 6) (m := 2000) rc.1 (by have := r1.2 hx; omega)
  have q2 := fun (hx : h 11 k.toNat ≠ -1) => pg_mul12 (q1 hx) rb
  have t1 := pg_tm (x := v - h 12 k.toNat) (y := h 10 6) (by omega)
  have t2 := pg_tm (x := u - h 11 k.toNat - Int.tdiv (v - h 12 k.toNat) (h 10 6) * h 10 5) (y := h 10 4) (by omega)
  have z1 := @pg_tm0 (v - h 12 k.toNat) (h 10 6)
  have z2 := @pg_tm0 (u - h 11 k.toNat - Int.tdiv (v - h 12 k.toNat) (h 10 6) * h 10 5) (h 10 4)
  refine pg_Sem_of pm_S_contains_f rfl ?_
  refine pg_br 5 (L := [0 ≤ k ∧ k < (12 : Int)]) (P := pg_inR (h 11 k.toNat) ∧ pg_inR (-1)) (c := (h 11 k.toNat) = (-1)) (st1 := (26, [(0, .inr (.inr 10)), (1, .inl k), (2, .inl u), (3, .inl v)], [], h)) (st2 := (10, [(0, .inr (.inr 10)), (1, .inl k), (2, .inl u), (3, .inl v)], [], h)) rfl ⟨by omega, by omega⟩ ⟨⟨by omega, by omega⟩, ⟨by decide, by decide⟩⟩ (fun c_7_1 => ?_) (fun c_7_1 => ?_)
  · refine pg_re 1 (L := [0 = 0 ∨ 0 = 1]) (r := some (.inl 0)) (h0 := h) rfl (Or.inl rfl) ?_
    refine ⟨?_, rfl⟩
    first | (rw [pg_b_f (fun hz => by have := hz.1; omega)]; done) | (rw [pg_b_f (fun hz => by have := z1.mpr hz.2.1; omega)]; done) | (rw [pg_b_f (fun hz => by have e := pg_tdd hz.2.1; have hz2 := hz.2.2; rw [← e] at hz2; have := z2.mpr hz2; omega)]; done) | (have d1 := z1.mp (by omega); have d2 := z2.mp (by omega); rw [pg_tdd d1] at d2; rw [pg_b_t ⟨by omega, d1, d2⟩]; done)
  · refine pg_br 3 (L := []) (P := pg_inR (h 10 4) ∧ pg_inR 1) (c := (h 10 4) < 1) (st1 := (26, [(0, .inr (.inr 10)), (1, .inl k), (2, .inl u), (3, .inl v)], [], h)) (st2 := (18, [(0, .inr (.inr 10)), (1, .inl k), (2, .inl u), (3, .inl v)], [], h)) rfl trivial ⟨⟨by omega, by omega⟩, ⟨by decide, by decide⟩⟩ (fun c_15_2 => ?_) (fun c_15_2 => ?_)
    · exact (by exfalso; omega)
    · refine pg_br 3 (L := []) (P := pg_inR (h 10 6) ∧ pg_inR 1) (c := 1 ≤ (h 10 6)) (st1 := (28, [(0, .inr (.inr 10)), (1, .inl k), (2, .inl u), (3, .inl v)], [], h)) (st2 := (26, [(0, .inr (.inr 10)), (1, .inl k), (2, .inl u), (3, .inl v)], [], h)) rfl trivial ⟨⟨by omega, by omega⟩, ⟨by decide, by decide⟩⟩ (fun c_23_3 => ?_) (fun c_23_3 => ?_)
      · refine pg_br 11 (L := [0 ≤ k ∧ k < (12 : Int), (h 10 6) ≠ 0 ∧ pg_inR (v - (h 12 k.toNat)) ∧ pg_inR (h 10 6)]) (P := pg_inR (Int.tmod (v - (h 12 k.toNat)) (h 10 6))) (c := ¬ (Int.tmod (v - (h 12 k.toNat)) (h 10 6)) = 0) (st1 := (81, [(0, .inr (.inr 10)), (1, .inl k), (2, .inl u), (3, .inl v), (4, .inl (v - (h 12 k.toNat)))], [], h)) (st2 := (48, [(0, .inr (.inr 10)), (1, .inl k), (2, .inl u), (3, .inl v), (4, .inl (v - (h 12 k.toNat)))], [], h)) rfl ⟨⟨by omega, by omega⟩, ⟨by omega, ⟨by omega, by omega⟩, ⟨by omega, by omega⟩⟩⟩ ⟨by omega, by omega⟩ (fun c_45_4 => ?_) (fun c_45_4 => ?_)
        · refine pg_re 1 (L := [0 = 0 ∨ 0 = 1]) (r := some (.inl 0)) (h0 := h) rfl (Or.inl rfl) ?_
          refine ⟨?_, rfl⟩
          first | (rw [pg_b_f (fun hz => by have := hz.1; omega)]; done) | (rw [pg_b_f (fun hz => by have := z1.mpr hz.2.1; omega)]; done) | (rw [pg_b_f (fun hz => by have e := pg_tdd hz.2.1; have hz2 := hz.2.2; rw [← e] at hz2; have := z2.mpr hz2; omega)]; done) | (have d1 := z1.mp (by omega); have d2 := z2.mp (by omega); rw [pg_tdd d1] at d2; rw [pg_b_t ⟨by omega, d1, d2⟩]; done)
        · refine pg_br 17 (L := [0 ≤ k ∧ k < (12 : Int), (h 10 6) ≠ 0 ∧ pg_inR (v - (h 12 k.toNat)) ∧ pg_inR (h 10 6), (h 10 4) ≠ 0 ∧ pg_inR ((u - (h 11 k.toNat)) - ((Int.tdiv (v - (h 12 k.toNat)) (h 10 6)) * (h 10 5))) ∧ pg_inR (h 10 4)]) (P := pg_inR (Int.tmod ((u - (h 11 k.toNat)) - ((Int.tdiv (v - (h 12 k.toNat)) (h 10 6)) * (h 10 5))) (h 10 4))) (c := ¬ (Int.tmod ((u - (h 11 k.toNat)) - ((Int.tdiv (v - (h 12 k.toNat)) (h 10 6)) * (h 10 5))) (h 10 4)) = 0) (st1 := (81, [(0, .inr (.inr 10)), (1, .inl k), (2, .inl u), (3, .inl v), (4, .inl (v - (h 12 k.toNat)))], [], h)) (st2 := (77, [(0, .inr (.inr 10)), (1, .inl k), (2, .inl u), (3, .inl v), (4, .inl (v - (h 12 k.toNat)))], [], h)) rfl ⟨⟨by omega, by omega⟩, ⟨by omega, ⟨by omega, by omega⟩, ⟨by omega, by omega⟩⟩, ⟨by omega, ⟨by omega, by omega⟩, ⟨by omega, by omega⟩⟩⟩ ⟨by omega, by omega⟩ (fun c_74_5 => ?_) (fun c_74_5 => ?_)
          · refine pg_re 1 (L := [0 = 0 ∨ 0 = 1]) (r := some (.inl 0)) (h0 := h) rfl (Or.inl rfl) ?_
            refine ⟨?_, rfl⟩
            first | (rw [pg_b_f (fun hz => by have := hz.1; omega)]; done) | (rw [pg_b_f (fun hz => by have := z1.mpr hz.2.1; omega)]; done) | (rw [pg_b_f (fun hz => by have e := pg_tdd hz.2.1; have hz2 := hz.2.2; rw [← e] at hz2; have := z2.mpr hz2; omega)]; done) | (have d1 := z1.mp (by omega); have d2 := z2.mp (by omega); rw [pg_tdd d1] at d2; rw [pg_b_t ⟨by omega, d1, d2⟩]; done)
          · refine pg_re 2 (L := [1 = 0 ∨ 1 = 1]) (r := some (.inl 1)) (h0 := h) rfl (Or.inr rfl) ?_
            refine ⟨?_, rfl⟩
            first | (rw [pg_b_f (fun hz => by have := hz.1; omega)]; done) | (rw [pg_b_f (fun hz => by have := z1.mpr hz.2.1; omega)]; done) | (rw [pg_b_f (fun hz => by have e := pg_tdd hz.2.1; have hz2 := hz.2.2; rw [← e] at hz2; have := z2.mpr hz2; omega)]; done) | (have d1 := z1.mp (by omega); have d2 := z2.mp (by omega); rw [pg_tdd d1] at d2; rw [pg_b_t ⟨by omega, d1, d2⟩]; done)
      · exact (by exfalso; omega)
set_option maxHeartbeats 4000000 in
theorem cs_fixes {h : pg_H} {s n : Int} (hB : cm_B h s n) (hR : sy_R h s) (k p q : Int) (hk : 0 ≤ k ∧ k < 2 * mt_rd s) (hp : 0 ≤ p ∧ p ≤ 100) (hq : 0 ≤ q ∧ q ≤ 100) : pg_Sem true pm_S_fixes [.inr (.inr 10), .inl k, .inl p, .inl q] h (fun r h' => r = some (.inl (pg_b (sy_F h s k p q))) ∧ h' = h) := by
  obtain ⟨hs, ⟨hn1, hn2⟩, e1, e2, e3, e5⟩ := id hB
  have hr := mt_rd_or hs
  obtain ⟨ra, rb, rc, rl, rk⟩ := id hR
  have r1 := rk k.toNat (by omega)
  have hX := mt_x_bd (s := s) (k := k) (x := p) (y := q) 100 (by omega) (by omega)
  have hY := mt_y_bd (s := s) (k := k) (x := p) (y := q) 100 (by omega) (by omega)
  have t1 := pg_tm (x := p - mt_x s k p q) (y := 6) (by omega)
  have t2 := pg_tm (x := q - mt_y s k p q) (y := 6) (by omega)
  have z1 := @pg_tm0 (p - mt_x s k p q) 6
  have z2 := @pg_tm0 (q - mt_y s k p q) 6
  have d1 := pg_tdiv_bd (x := p - mt_x s k p q) (c := 6) (m := 300) (by omega) (by omega)
  have d2 := pg_tdiv_bd (x := q - mt_y s k p q) (c := 6) (m := 300) (by omega) (by omega)
  have hbo := pg_b_or (sy_P h k (Int.tdiv (p - mt_x s k p q) 6) (Int.tdiv (q - mt_y s k p q) 6))
  refine pg_Sem_of pm_S_fixes_f rfl ?_
  refine pg_br 5 (L := [0 ≤ k ∧ k < (12 : Int)]) (P := pg_inR (h 11 k.toNat) ∧ pg_inR (-1)) (c := ¬ (h 11 k.toNat) = (-1)) (st1 := (12, [(0, .inr (.inr 10)), (1, .inl k), (2, .inl p), (3, .inl q)], [], h)) (st2 := (10, [(0, .inr (.inr 10)), (1, .inl k), (2, .inl p), (3, .inl q)], [], h)) rfl ⟨by omega, by omega⟩ ⟨⟨by omega, by omega⟩, ⟨by decide, by decide⟩⟩ (fun c_7_1 => ?_) (fun c_7_1 => ?_)
  · refine pg_ca 6 (L := []) (Mc := pm_M_linearX) (as := [.inr (.inr 4), .inl k, .inl p, .inl q]) (h0 := h) (pc := 23) (lv := [(0, .inr (.inr 10)), (1, .inl k), (2, .inl p), (3, .inl q)]) (rest := [.inl p]) rfl trivial (cm_linearX hB k p q ⟨by omega, by omega⟩) ?_
    intro r_1 h_1 e_1; rw [e_1.1, e_1.2]
    refine pg_ca 8 (L := []) (Mc := pm_M_linearY) (as := [.inr (.inr 4), .inl k, .inl p, .inl q]) (h0 := h) (pc := 37) (lv := [(0, .inr (.inr 10)), (1, .inl k), (2, .inl p), (3, .inl q), (4, .inl (p - (mt_x s k p q)))]) (rest := [.inl q]) rfl trivial (cm_linearY hB k p q ⟨by omega, by omega⟩) ?_
    intro r_1 h_1 e_1; rw [e_1.1, e_1.2]
    refine pg_br 5 (L := [6 ≠ 0 ∧ pg_inR (p - (mt_x s k p q)) ∧ pg_inR 6]) (P := pg_inR (Int.tmod (p - (mt_x s k p q)) 6)) (c := ¬ (Int.tmod (p - (mt_x s k p q)) 6) = 0) (st1 := (78, [(0, .inr (.inr 10)), (1, .inl k), (2, .inl p), (3, .inl q), (4, .inl (p - (mt_x s k p q))), (5, .inl (q - (mt_y s k p q)))], [], h)) (st2 := (48, [(0, .inr (.inr 10)), (1, .inl k), (2, .inl p), (3, .inl q), (4, .inl (p - (mt_x s k p q))), (5, .inl (q - (mt_y s k p q)))], [], h)) rfl ⟨by omega, ⟨by omega, by omega⟩, ⟨by omega, by omega⟩⟩ ⟨by omega, by omega⟩ (fun c_45_2 => ?_) (fun c_45_2 => ?_)
    · refine pg_re 1 (L := [0 = 0 ∨ 0 = 1]) (r := some (.inl 0)) (h0 := h) rfl (Or.inl rfl) ?_
      refine ⟨?_, rfl⟩
      first | (rw [pg_b_f (fun hz => by have := hz.1; omega)]; done) | (rw [pg_b_f (fun hz => by have := z1.mpr hz.2.1; omega)]; done) | (rw [pg_b_f (fun hz => by have := z2.mpr hz.2.2.1; omega)]; done) | (rcases hbo with ⟨hb1, hb2⟩ | ⟨hb1, hb2⟩; (· first | (exfalso; omega) | (have f1 := z1.mp (by omega); have f2 := z2.mp (by omega); unfold sy_P at hb1; rw [pg_tdd f1, pg_tdd f2] at hb1; rw [pg_b_t ⟨hb1.1, f1, f2, hb1.2⟩])); (· first | (exfalso; omega) | (rw [pg_b_f (fun hz => by apply hb1; unfold sy_P; rw [pg_tdd hz.2.1, pg_tdd hz.2.2.1]; exact ⟨hz.1, hz.2.2.2⟩)])))
    · refine pg_br 3 (L := [6 ≠ 0 ∧ pg_inR (q - (mt_y s k p q)) ∧ pg_inR 6]) (P := pg_inR (Int.tmod (q - (mt_y s k p q)) 6)) (c := ¬ (Int.tmod (q - (mt_y s k p q)) 6) = 0) (st1 := (78, [(0, .inr (.inr 10)), (1, .inl k), (2, .inl p), (3, .inl q), (4, .inl (p - (mt_x s k p q))), (5, .inl (q - (mt_y s k p q)))], [], h)) (st2 := (56, [(0, .inr (.inr 10)), (1, .inl k), (2, .inl p), (3, .inl q), (4, .inl (p - (mt_x s k p q))), (5, .inl (q - (mt_y s k p q)))], [], h)) rfl ⟨by omega, ⟨by omega, by omega⟩, ⟨by omega, by omega⟩⟩ ⟨by omega, by omega⟩ (fun c_53_3 => ?_) (fun c_53_3 => ?_)
      · refine pg_re 1 (L := [0 = 0 ∨ 0 = 1]) (r := some (.inl 0)) (h0 := h) rfl (Or.inl rfl) ?_
        refine ⟨?_, rfl⟩
        first | (rw [pg_b_f (fun hz => by have := hz.1; omega)]; done) | (rw [pg_b_f (fun hz => by have := z1.mpr hz.2.1; omega)]; done) | (rw [pg_b_f (fun hz => by have := z2.mpr hz.2.2.1; omega)]; done) | (rcases hbo with ⟨hb1, hb2⟩ | ⟨hb1, hb2⟩; (· first | (exfalso; omega) | (have f1 := z1.mp (by omega); have f2 := z2.mp (by omega); unfold sy_P at hb1; rw [pg_tdd f1, pg_tdd f2] at hb1; rw [pg_b_t ⟨hb1.1, f1, f2, hb1.2⟩])); (· first | (exfalso; omega) | (rw [pg_b_f (fun hz => by apply hb1; unfold sy_P; rw [pg_tdd hz.2.1, pg_tdd hz.2.2.1]; exact ⟨hz.1, hz.2.2.2⟩)])))
      · refine pg_ca 8 (L := [6 ≠ 0 ∧ pg_inR (p - (mt_x s k p q)) ∧ pg_inR 6, 6 ≠ 0 ∧ pg_inR (q - (mt_y s k p q)) ∧ pg_inR 6]) (Mc := pm_S_contains) (as := [.inr (.inr 10), .inl k, .inl (Int.tdiv (p - (mt_x s k p q)) 6), .inl (Int.tdiv (q - (mt_y s k p q)) 6)]) (h0 := h) (pc := 71) (lv := [(0, .inr (.inr 10)), (1, .inl k), (2, .inl p), (3, .inl q), (4, .inl (p - (mt_x s k p q))), (5, .inl (q - (mt_y s k p q)))]) (rest := []) rfl ⟨⟨by omega, ⟨by omega, by omega⟩, ⟨by omega, by omega⟩⟩, ⟨by omega, ⟨by omega, by omega⟩, ⟨by omega, by omega⟩⟩⟩ (cs_contains hB hR k (Int.tdiv (p - (mt_x s k p q)) 6) (Int.tdiv (q - (mt_y s k p q)) 6) ⟨by omega, by omega⟩ ⟨by omega, by omega⟩ ⟨by omega, by omega⟩) ?_
        intro r_1 h_1 e_1; rw [e_1.1, e_1.2]
        refine pg_br 0 (L := []) (P := pg_inR (pg_b (sy_P h k (Int.tdiv (p - (mt_x s k p q)) 6) (Int.tdiv (q - (mt_y s k p q)) 6)))) (c := (pg_b (sy_P h k (Int.tdiv (p - (mt_x s k p q)) 6) (Int.tdiv (q - (mt_y s k p q)) 6))) = 0) (st1 := (78, [(0, .inr (.inr 10)), (1, .inl k), (2, .inl p), (3, .inl q), (4, .inl (p - (mt_x s k p q))), (5, .inl (q - (mt_y s k p q)))], [], h)) (st2 := (74, [(0, .inr (.inr 10)), (1, .inl k), (2, .inl p), (3, .inl q), (4, .inl (p - (mt_x s k p q))), (5, .inl (q - (mt_y s k p q)))], [], h)) rfl trivial ⟨by omega, by omega⟩ (fun c_71_4 => ?_) (fun c_71_4 => ?_)
        · refine pg_re 1 (L := [0 = 0 ∨ 0 = 1]) (r := some (.inl 0)) (h0 := h) rfl (Or.inl rfl) ?_
          refine ⟨?_, rfl⟩
          first | (rw [pg_b_f (fun hz => by have := hz.1; omega)]; done) | (rw [pg_b_f (fun hz => by have := z1.mpr hz.2.1; omega)]; done) | (rw [pg_b_f (fun hz => by have := z2.mpr hz.2.2.1; omega)]; done) | (rcases hbo with ⟨hb1, hb2⟩ | ⟨hb1, hb2⟩; (· first | (exfalso; omega) | (have f1 := z1.mp (by omega); have f2 := z2.mp (by omega); unfold sy_P at hb1; rw [pg_tdd f1, pg_tdd f2] at hb1; rw [pg_b_t ⟨hb1.1, f1, f2, hb1.2⟩])); (· first | (exfalso; omega) | (rw [pg_b_f (fun hz => by apply hb1; unfold sy_P; rw [pg_tdd hz.2.1, pg_tdd hz.2.2.1]; exact ⟨hz.1, hz.2.2.2⟩)])))
        · refine pg_re 2 (L := [1 = 0 ∨ 1 = 1]) (r := some (.inl 1)) (h0 := h) rfl (Or.inr rfl) ?_
          refine ⟨?_, rfl⟩
          first | (rw [pg_b_f (fun hz => by have := hz.1; omega)]; done) | (rw [pg_b_f (fun hz => by have := z1.mpr hz.2.1; omega)]; done) | (rw [pg_b_f (fun hz => by have := z2.mpr hz.2.2.1; omega)]; done) | (rcases hbo with ⟨hb1, hb2⟩ | ⟨hb1, hb2⟩; (· first | (exfalso; omega) | (have f1 := z1.mp (by omega); have f2 := z2.mp (by omega); unfold sy_P at hb1; rw [pg_tdd f1, pg_tdd f2] at hb1; rw [pg_b_t ⟨hb1.1, f1, f2, hb1.2⟩])); (· first | (exfalso; omega) | (rw [pg_b_f (fun hz => by apply hb1; unfold sy_P; rw [pg_tdd hz.2.1, pg_tdd hz.2.2.1]; exact ⟨hz.1, hz.2.2.2⟩)])))
  · refine pg_re 1 (L := [0 = 0 ∨ 0 = 1]) (r := some (.inl 0)) (h0 := h) rfl (Or.inl rfl) ?_
    refine ⟨?_, rfl⟩
    first | (rw [pg_b_f (fun hz => by have := hz.1; omega)]; done) | (rw [pg_b_f (fun hz => by have := z1.mpr hz.2.1; omega)]; done) | (rw [pg_b_f (fun hz => by have := z2.mpr hz.2.2.1; omega)]; done) | (rcases hbo with ⟨hb1, hb2⟩ | ⟨hb1, hb2⟩; (· first | (exfalso; omega) | (have f1 := z1.mp (by omega); have f2 := z2.mp (by omega); unfold sy_P at hb1; rw [pg_tdd f1, pg_tdd f2] at hb1; rw [pg_b_t ⟨hb1.1, f1, f2, hb1.2⟩])); (· first | (exfalso; omega) | (rw [pg_b_f (fun hz => by apply hb1; unfold sy_P; rw [pg_tdd hz.2.1, pg_tdd hz.2.2.1]; exact ⟨hz.1, hz.2.2.2⟩)])))
theorem cs_turns_l {h : pg_H} {s n : Int} (hB : cm_B h s n) (hR : sy_R h s) {p q : Int} (hp : 0 ≤ p ∧ p ≤ 100) (hq : 0 ≤ q ∧ q ≤ 100) : ∀ (d : Nat) (f k : Int) (hd : k + (d : Int) = mt_rd s) (hk : 0 ≤ k) (hf : f = pg_cn (fun k => sy_F h s k p q) k.toNat), pg_Good true pm_S_turnsAt (fun r h' => r = some (.inl (pg_cn (fun k => sy_F h s k p q) (mt_rd s).toNat)) ∧ h' = h) (5, [(0, .inr (.inr 10)), (1, .inl p), (2, .inl q), (3, .inl f), (4, .inl k)], [], h) := by
  intro d
  induction d with
  | zero =>
    intro f k hd hk hf
    obtain ⟨hs, ⟨hn1, hn2⟩, e1, e2, e3, e5⟩ := id hB
    have hr := mt_rd_or hs
    obtain ⟨ra, rb, rc, rl, rk⟩ := id hR
    refine pg_br 4 (L := []) (P := pg_inR k ∧ pg_inR (h 4 3)) (c := (h 4 3) ≤ k) (st1 := (37, [(0, .inr (.inr 10)), (1, .inl p), (2, .inl q), (3, .inl f), (4, .inl k)], [], h)) (st2 := (17, [(0, .inr (.inr 10)), (1, .inl p), (2, .inl q), (3, .inl f), (4, .inl k)], [], h)) rfl trivial ⟨⟨by omega, by omega⟩, ⟨by omega, by omega⟩⟩ (fun c_14_1 => ?_) (fun c_14_1 => ?_)
    · refine pg_re 1 (L := []) (r := some (.inl f)) (h0 := h) rfl trivial ?_
      refine ⟨?_, rfl⟩
      rw [hf, show k = mt_rd s by omega]
    · exact (by exfalso; omega)
  | succ d ih =>
    intro f k hd hk hf
    obtain ⟨hs, ⟨hn1, hn2⟩, e1, e2, e3, e5⟩ := id hB
    have hr := mt_rd_or hs
    obtain ⟨ra, rb, rc, rl, rk⟩ := id hR
    have hbo := pg_b_01 (sy_F h s k p q)
    have ek : (k + 1).toNat = k.toNat + 1 := by omega
    have ek2 : ((k.toNat : Nat) : Int) = k := by omega
    refine pg_br 4 (L := []) (P := pg_inR k ∧ pg_inR (h 4 3)) (c := (h 4 3) ≤ k) (st1 := (37, [(0, .inr (.inr 10)), (1, .inl p), (2, .inl q), (3, .inl f), (4, .inl k)], [], h)) (st2 := (17, [(0, .inr (.inr 10)), (1, .inl p), (2, .inl q), (3, .inl f), (4, .inl k)], [], h)) rfl trivial ⟨⟨by omega, by omega⟩, ⟨by omega, by omega⟩⟩ (fun c_14_2 => ?_) (fun c_14_2 => ?_)
    · exact (by exfalso; omega)
    · refine pg_ca 4 (L := []) (Mc := pm_S_fixes) (as := [.inr (.inr 10), .inl k, .inl p, .inl q]) (h0 := h) (pc := 25) (lv := [(0, .inr (.inr 10)), (1, .inl p), (2, .inl q), (3, .inl f), (4, .inl k)]) (rest := []) rfl trivial (cs_fixes hB hR k p q ⟨by omega, by omega⟩ ⟨by omega, by omega⟩ ⟨by omega, by omega⟩) ?_
      intro r_1 h_1 e_1; rw [e_1.1, e_1.2]
      refine pg_br 0 (L := []) (P := pg_inR (pg_b (sy_F h s k p q))) (c := (pg_b (sy_F h s k p q)) = 0) (st1 := (31, [(0, .inr (.inr 10)), (1, .inl p), (2, .inl q), (3, .inl f), (4, .inl k)], [], h)) (st2 := (28, [(0, .inr (.inr 10)), (1, .inl p), (2, .inl q), (3, .inl f), (4, .inl k)], [], h)) rfl trivial ⟨by omega, by omega⟩ (fun c_25_3 => ?_) (fun c_25_3 => ?_)
      · refine pg_go 2 (L := []) (st' := (5, [(0, .inr (.inr 10)), (1, .inl p), (2, .inl q), (3, .inl f), (4, .inl (k + 1))], [], h)) rfl trivial ?_
        refine ih _ _ (by omega) (by omega) ?_
        rw [ek, hf]
        simp only [pg_cn, ek2]
        omega
      · refine pg_go 3 (L := []) (st' := (5, [(0, .inr (.inr 10)), (1, .inl p), (2, .inl q), (3, .inl (f + 1)), (4, .inl (k + 1))], [], h)) rfl trivial ?_
        refine ih _ _ (by omega) (by omega) ?_
        rw [ek, hf]
        simp only [pg_cn, ek2]
        omega
theorem cs_turns {h : pg_H} {s n : Int} (hB : cm_B h s n) (hR : sy_R h s) {p q : Int} (hp : 0 ≤ p ∧ p ≤ 100) (hq : 0 ≤ q ∧ q ≤ 100) : pg_Sem true pm_S_turnsAt [.inr (.inr 10), .inl p, .inl q] h (fun r h' => r = some (.inl (pg_cn (fun k => sy_F h s k p q) (mt_rd s).toNat)) ∧ h' = h) := by
  obtain ⟨hs, ⟨hn1, hn2⟩, e1, e2, e3, e5⟩ := id hB
  have hr := mt_rd_or hs
  obtain ⟨ra, rb, rc, rl, rk⟩ := id hR
  refine pg_Sem_of pm_S_turnsAt_f rfl ?_
  refine pg_go 4 (L := []) (st' := (5, [(0, .inr (.inr 10)), (1, .inl p), (2, .inl q), (3, .inl 0), (4, .inl 0)], [], h)) rfl trivial ?_
  exact cs_turns_l hB hR hp hq (mt_rd s).toNat _ _ (by omega) (by omega) rfl
theorem cs_mirr_l {h : pg_H} {s n : Int} (hB : cm_B h s n) (hR : sy_R h s) {p q : Int} (hp : 0 ≤ p ∧ p ≤ 100) (hq : 0 ≤ q ∧ q ≤ 100) : ∀ (d : Nat) (f k : Int) (hd : k + (d : Int) = 2 * mt_rd s) (hk : mt_rd s ≤ k) (hf : f = pg_cn (fun k => sy_F h s (mt_rd s + k) p q) (k - mt_rd s).toNat), pg_Good true pm_S_mirrorsAt (fun r h' => r = some (.inl (pg_cn (fun k => sy_F h s (mt_rd s + k) p q) (mt_rd s).toNat)) ∧ h' = h) (11, [(0, .inr (.inr 10)), (1, .inl p), (2, .inl q), (3, .inl f), (4, .inl k)], [], h) := by
  intro d
  induction d with
  | zero =>
    intro f k hd hk hf
    obtain ⟨hs, ⟨hn1, hn2⟩, e1, e2, e3, e5⟩ := id hB
    have hr := mt_rd_or hs
    obtain ⟨ra, rb, rc, rl, rk⟩ := id hR
    refine pg_ca 3 (L := []) (Mc := pm_M_linears) (as := [.inr (.inr 4)]) (h0 := h) (pc := 20) (lv := [(0, .inr (.inr 10)), (1, .inl p), (2, .inl q), (3, .inl f), (4, .inl k)]) (rest := [.inl k]) rfl trivial (cm_linears hB) ?_
    intro r_1 h_1 e_1; rw [e_1.1, e_1.2]
    refine pg_br 0 (L := []) (P := pg_inR k ∧ pg_inR (2 * mt_rd s)) (c := (2 * mt_rd s) ≤ k) (st1 := (43, [(0, .inr (.inr 10)), (1, .inl p), (2, .inl q), (3, .inl f), (4, .inl k)], [], h)) (st2 := (23, [(0, .inr (.inr 10)), (1, .inl p), (2, .inl q), (3, .inl f), (4, .inl k)], [], h)) rfl trivial ⟨⟨by omega, by omega⟩, ⟨by omega, by omega⟩⟩ (fun c_20_1 => ?_) (fun c_20_1 => ?_)
    · refine pg_re 1 (L := []) (r := some (.inl f)) (h0 := h) rfl trivial ?_
      refine ⟨?_, rfl⟩
      rw [hf, show k - mt_rd s = mt_rd s by omega]
    · exact (by exfalso; omega)
  | succ d ih =>
    intro f k hd hk hf
    obtain ⟨hs, ⟨hn1, hn2⟩, e1, e2, e3, e5⟩ := id hB
    have hr := mt_rd_or hs
    obtain ⟨ra, rb, rc, rl, rk⟩ := id hR
    have hbo := pg_b_01 (sy_F h s k p q)
    have ek : (k + 1 - mt_rd s).toNat = (k - mt_rd s).toNat + 1 := by omega
    have ek2 : mt_rd s + (((k - mt_rd s).toNat : Nat) : Int) = k := by omega
    refine pg_ca 3 (L := []) (Mc := pm_M_linears) (as := [.inr (.inr 4)]) (h0 := h) (pc := 20) (lv := [(0, .inr (.inr 10)), (1, .inl p), (2, .inl q), (3, .inl f), (4, .inl k)]) (rest := [.inl k]) rfl trivial (cm_linears hB) ?_
    intro r_1 h_1 e_1; rw [e_1.1, e_1.2]
    refine pg_br 0 (L := []) (P := pg_inR k ∧ pg_inR (2 * mt_rd s)) (c := (2 * mt_rd s) ≤ k) (st1 := (43, [(0, .inr (.inr 10)), (1, .inl p), (2, .inl q), (3, .inl f), (4, .inl k)], [], h)) (st2 := (23, [(0, .inr (.inr 10)), (1, .inl p), (2, .inl q), (3, .inl f), (4, .inl k)], [], h)) rfl trivial ⟨⟨by omega, by omega⟩, ⟨by omega, by omega⟩⟩ (fun c_20_2 => ?_) (fun c_20_2 => ?_)
    · exact (by exfalso; omega)
    · refine pg_ca 4 (L := []) (Mc := pm_S_fixes) (as := [.inr (.inr 10), .inl k, .inl p, .inl q]) (h0 := h) (pc := 31) (lv := [(0, .inr (.inr 10)), (1, .inl p), (2, .inl q), (3, .inl f), (4, .inl k)]) (rest := []) rfl trivial (cs_fixes hB hR k p q ⟨by omega, by omega⟩ ⟨by omega, by omega⟩ ⟨by omega, by omega⟩) ?_
      intro r_1 h_1 e_1; rw [e_1.1, e_1.2]
      refine pg_br 0 (L := []) (P := pg_inR (pg_b (sy_F h s k p q))) (c := (pg_b (sy_F h s k p q)) = 0) (st1 := (37, [(0, .inr (.inr 10)), (1, .inl p), (2, .inl q), (3, .inl f), (4, .inl k)], [], h)) (st2 := (34, [(0, .inr (.inr 10)), (1, .inl p), (2, .inl q), (3, .inl f), (4, .inl k)], [], h)) rfl trivial ⟨by omega, by omega⟩ (fun c_31_3 => ?_) (fun c_31_3 => ?_)
      · refine pg_go 2 (L := []) (st' := (11, [(0, .inr (.inr 10)), (1, .inl p), (2, .inl q), (3, .inl f), (4, .inl (k + 1))], [], h)) rfl trivial ?_
        refine ih _ _ (by omega) (by omega) ?_
        rw [ek, hf]
        simp only [pg_cn, ek2]
        omega
      · refine pg_go 3 (L := []) (st' := (11, [(0, .inr (.inr 10)), (1, .inl p), (2, .inl q), (3, .inl (f + 1)), (4, .inl (k + 1))], [], h)) rfl trivial ?_
        refine ih _ _ (by omega) (by omega) ?_
        rw [ek, hf]
        simp only [pg_cn, ek2]
        omega
theorem cs_mirr {h : pg_H} {s n : Int} (hB : cm_B h s n) (hR : sy_R h s) {p q : Int} (hp : 0 ≤ p ∧ p ≤ 100) (hq : 0 ≤ q ∧ q ≤ 100) : pg_Sem true pm_S_mirrorsAt [.inr (.inr 10), .inl p, .inl q] h (fun r h' => r = some (.inl (pg_cn (fun k => sy_F h s (mt_rd s + k) p q) (mt_rd s).toNat)) ∧ h' = h) := by
  obtain ⟨hs, ⟨hn1, hn2⟩, e1, e2, e3, e5⟩ := id hB
  have hr := mt_rd_or hs
  obtain ⟨ra, rb, rc, rl, rk⟩ := id hR
  refine pg_Sem_of pm_S_mirrorsAt_f rfl ?_
  refine pg_go 6 (L := []) (st' := (11, [(0, .inr (.inr 10)), (1, .inl p), (2, .inl q), (3, .inl 0), (4, .inl (h 4 3))], [], h)) rfl trivial ?_
  refine cs_mirr_l hB hR hp hq (mt_rd s).toNat _ _ (by omega) (by omega) ?_
  rw [show h 4 3 - mt_rd s = 0 by omega]
  rfl
theorem pg_prod_bd {a c : Int} (ha : 1 ≤ a ∧ a ≤ 12) (hc : 1 ≤ c ∧ c ≤ 12) : 1 ≤ a * c ∧ a * c ≤ 144 := by
  have : a = 1 ∨ a = 2 ∨ a = 3 ∨ a = 4 ∨ a = 5 ∨ a = 6 ∨ a = 7 ∨ a = 8 ∨ a = 9 ∨ a = 10 ∨ a = 11 ∨ a = 12 := by omega
  rcases this with rfl | rfl | rfl | rfl | rfl | rfl | rfl | rfl | rfl | rfl | rfl | rfl <;> omega
def sy_sh (h : pg_H) (n : Int) : Int := n * n / (h 10 4 * h 10 6)
theorem sy_sh_bd {h : pg_H} {s n : Int} (hR : sy_R h s) (hn : 1 ≤ n ∧ n ≤ 12) : 0 ≤ sy_sh h n ∧ sy_sh h n ≤ 144 := by
  have h1 := pg_prod_bd hR.1 hR.2.2.1
  have h2 := mt_nn hn.1 hn.2
  unfold sy_sh
  refine ⟨Int.ediv_nonneg (by omega) (by omega), ?_⟩
  have := Int.ediv_le_self (h 10 4 * h 10 6) (show 0 ≤ n * n by omega)
  omega
theorem cs_shifts {h : pg_H} {s n : Int} (hB : cm_B h s n) (hR : sy_R h s) : pg_Sem true pm_S_shifts [.inr (.inr 10)] h (fun r h' => r = some (.inl (sy_sh h n)) ∧ h' = h) := by
  obtain ⟨hs, ⟨hn1, hn2⟩, e1, e2, e3, e5⟩ := id hB
  have hr := mt_rd_or hs
  obtain ⟨ra, rb, rc, rl, rk⟩ := id hR
  have hpb := pg_prod_bd ra rc
  have hnn := mt_nn hn1 hn2
  refine pg_Sem_of pm_S_shifts_f rfl ?_
  refine pg_br 3 (L := []) (P := pg_inR (h 10 4) ∧ pg_inR 1) (c := (h 10 4) < 1) (st1 := (16, [(0, .inr (.inr 10))], [], h)) (st2 := (8, [(0, .inr (.inr 10))], [], h)) rfl trivial ⟨⟨by omega, by omega⟩, ⟨by decide, by decide⟩⟩ (fun c_5_1 => ?_) (fun c_5_1 => ?_)
  · exact (by exfalso; omega)
  · refine pg_br 3 (L := []) (P := pg_inR (h 10 6) ∧ pg_inR 1) (c := 1 ≤ (h 10 6)) (st1 := (20, [(0, .inr (.inr 10))], [], h)) (st2 := (16, [(0, .inr (.inr 10))], [], h)) rfl trivial ⟨⟨by omega, by omega⟩, ⟨by decide, by decide⟩⟩ (fun c_13_2 => ?_) (fun c_13_2 => ?_)
    · refine pg_ca 2 (L := []) (Mc := pm_M_points) (as := [.inr (.inr 4)]) (h0 := h) (pc := 27) (lv := [(0, .inr (.inr 10))]) (rest := []) rfl trivial (cm_points hB) ?_
      intro r_1 h_1 e_1; rw [e_1.1, e_1.2]
      refine pg_re 6 (L := [((h 10 4) * (h 10 6)) ≠ 0 ∧ pg_inR (n * n) ∧ pg_inR ((h 10 4) * (h 10 6))]) (r := some (.inl (Int.tdiv (n * n) ((h 10 4) * (h 10 6))))) (h0 := h) rfl ⟨by omega, ⟨by omega, by omega⟩, ⟨by omega, by omega⟩⟩ ?_
      refine ⟨?_, rfl⟩
      rw [pg_tdiv_nn (by omega)]
      rfl
    · exact (by exfalso; omega)
theorem cs_total {h : pg_H} {s n : Int} (hB : cm_B h s n) (hR : sy_R h s) : pg_Sem true pm_S_total [.inr (.inr 10)] h (fun r h' => r = some (.inl (h 10 7 * sy_sh h n)) ∧ h' = h) := by
  obtain ⟨hs, ⟨hn1, hn2⟩, e1, e2, e3, e5⟩ := id hB
  have hr := mt_rd_or hs
  obtain ⟨ra, rb, rc, rl, rk⟩ := id hR
  refine pg_Sem_of pm_S_total_f rfl ?_
  refine pg_ca 3 (L := []) (Mc := pm_S_shifts) (as := [.inr (.inr 10)]) (h0 := h) (pc := 8) (lv := [(0, .inr (.inr 10))]) (rest := [.inl (h 10 7)]) rfl trivial (cs_shifts hB hR) ?_
  intro r_1 h_1 e_1; rw [e_1.1, e_1.2]
  refine pg_re 1 (L := []) (r := some (.inl ((h 10 7) * (sy_sh h n)))) (h0 := h) rfl trivial ?_
  exact ⟨rfl, rfl⟩
