/-! Picture: strips; Reached -/
theorem cp_ks_x {h : pg_H} {s n : Int} (hB : cm_B h s n) (hC : cp_C h) {y w tb bk u : Int} (hy : 0 ≤ y ∧ y ≤ 100) (hw : 0 ≤ w ∧ w ≤ 100) (ht : tb = 0 ∨ tb = 1) (hb : bk = 0 ∨ bk = 1) (hu : -100 ≤ u ∧ u ≤ 100) {j rw_ : Int} (hj : 0 ≤ j ∧ j < w) (hrw : rw_ = y + (if tb = 0 then j else w - 1 - j)) (hrb : -1000 ≤ rw_ ∧ rw_ ≤ 1000) : ∀ (d : Nat) (x : Int) (hd : x + (d : Int) = n) (hx : 0 ≤ x) (hrow : ∀ a : Int, 0 ≤ a → a < x → h 7 (mt_pt n (a % n) ((y + j) % n)).toNat = h 7 (mt_pt n ((if bk = 0 then u + a else u - a) % n) ((y + (if tb = 0 then j else w - 1 - j)) % n)).toNat) (hK : (∀ a : Int, 0 ≤ a → a < n → h 7 (mt_pt n (a % n) ((y + j) % n)).toNat = h 7 (mt_pt n ((if bk = 0 then u + a else u - a) % n) ((y + (if tb = 0 then j else w - 1 - j)) % n)).toNat) → pg_Good true pm_C_keepsStrip (fun r h' => r = some (.inl (pg_b (mt_st (h 7) n y w tb bk u))) ∧ h' = h) (112, [(0, .inr (.inr 6)), (1, .inl y), (2, .inl w), (3, .inl tb), (4, .inl bk), (5, .inl u), (6, .inl j)], [], h)), pg_Good true pm_C_keepsStrip (fun r h' => r = some (.inl (pg_b (mt_st (h 7) n y w tb bk u))) ∧ h' = h) (31, [(0, .inr (.inr 6)), (1, .inl y), (2, .inl w), (3, .inl tb), (4, .inl bk), (5, .inl u), (6, .inl j), (7, .inl rw_), (8, .inl x)], [], h) := by
  intro d
  induction d with
  | zero =>
    intro x hd hx hrow hK
    obtain ⟨hs, ⟨hn1, hn2⟩, e1, e2, e3, e5⟩ := id hB
    have hr := mt_rd_or hs
    refine pg_br 4 (L := []) (P := pg_inR x ∧ pg_inR (h 4 2)) (c := (h 4 2) ≤ x) (st1 := (112, [(0, .inr (.inr 6)), (1, .inl y), (2, .inl w), (3, .inl tb), (4, .inl bk), (5, .inl u), (6, .inl j), (7, .inl rw_), (8, .inl x)], [], h)) (st2 := (43, [(0, .inr (.inr 6)), (1, .inl y), (2, .inl w), (3, .inl tb), (4, .inl bk), (5, .inl u), (6, .inl j), (7, .inl rw_), (8, .inl x)], [], h)) rfl trivial ⟨⟨by omega, by omega⟩, ⟨by omega, by omega⟩⟩ (fun c_40_1 => ?_) (fun c_40_1 => ?_)
    · refine pg_pick [0, 1, 2, 3, 4, 5, 6] rfl ?_
      exact hK (fun a h1 h2 => hrow a h1 (by omega))
    · exact (by exfalso; omega)
  | succ d ih =>
    intro x hd hx hrow hK
    obtain ⟨hs, ⟨hn1, hn2⟩, e1, e2, e3, e5⟩ := id hB
    have hr := mt_rd_or hs
    have f1 := mt_pt_bd hn1 hn2 (mt_mod hn1 x) (mt_mod hn1 (y + j))
    have f2 := mt_pt_bd hn1 hn2 (mt_mod hn1 (u + x)) (mt_mod hn1 rw_)
    have f3 := mt_pt_bd hn1 hn2 (mt_mod hn1 (u - x)) (mt_mod hn1 rw_)
    have g1 := hC _ (show (mt_pt n (x % n) ((y + j) % n)).toNat < 144 by omega)
    have g2 := hC _ (show (mt_pt n ((u + x) % n) (rw_ % n)).toNat < 144 by omega)
    have g3 := hC _ (show (mt_pt n ((u - x) % n) (rw_ % n)).toNat < 144 by omega)
    have eqx : (h 7 (mt_pt n (x % n) ((y + j) % n)).toNat = h 7 (mt_pt n ((if bk = 0 then u + x else u - x) % n) ((y + (if tb = 0 then j else w - 1 - j)) % n)).toNat) ↔ h 7 (mt_pt n (x % n) ((y + j) % n)).toNat = h 7 (mt_pt n ((if bk = 0 then u + x else u - x) % n) (rw_ % n)).toNat := by rw [hrw]
    refine pg_br 4 (L := []) (P := pg_inR x ∧ pg_inR (h 4 2)) (c := (h 4 2) ≤ x) (st1 := (112, [(0, .inr (.inr 6)), (1, .inl y), (2, .inl w), (3, .inl tb), (4, .inl bk), (5, .inl u), (6, .inl j), (7, .inl rw_), (8, .inl x)], [], h)) (st2 := (43, [(0, .inr (.inr 6)), (1, .inl y), (2, .inl w), (3, .inl tb), (4, .inl bk), (5, .inl u), (6, .inl j), (7, .inl rw_), (8, .inl x)], [], h)) rfl trivial ⟨⟨by omega, by omega⟩, ⟨by omega, by omega⟩⟩ (fun c_40_2 => ?_) (fun c_40_2 => ?_)
    · exact (by exfalso; omega)
    · refine pg_ca 6 (L := []) (Mc := pm_M_point) (as := [.inr (.inr 4), .inl x, .inl (y + j)]) (h0 := h) (pc := 56) (lv := [(0, .inr (.inr 6)), (1, .inl y), (2, .inl w), (3, .inl tb), (4, .inl bk), (5, .inl u), (6, .inl j), (7, .inl rw_), (8, .inl x)]) (rest := []) rfl trivial (cm_point hB x (y + j) ⟨by omega, by omega⟩ ⟨by omega, by omega⟩) ?_
      intro r_1 h_1 e_1; rw [e_1.1, e_1.2]
      refine pg_br 4 (L := []) (P := pg_inR bk) (c := bk = 0) (st1 := (75, [(0, .inr (.inr 6)), (1, .inl y), (2, .inl w), (3, .inl tb), (4, .inl bk), (5, .inl u), (6, .inl j), (7, .inl rw_), (8, .inl x), (9, .inl (mt_pt n (x % n) ((y + j) % n)))], [.inr (.inr 4)], h)) (st2 := (67, [(0, .inr (.inr 6)), (1, .inl y), (2, .inl w), (3, .inl tb), (4, .inl bk), (5, .inl u), (6, .inl j), (7, .inl rw_), (8, .inl x), (9, .inl (mt_pt n (x % n) ((y + j) % n)))], [.inr (.inr 4)], h)) rfl trivial ⟨by omega, by omega⟩ (fun c_64_3 => ?_) (fun c_64_3 => ?_)
      · refine pg_ca 4 (L := []) (Mc := pm_M_point) (as := [.inr (.inr 4), .inl (u + x), .inl rw_]) (h0 := h) (pc := 85) (lv := [(0, .inr (.inr 6)), (1, .inl y), (2, .inl w), (3, .inl tb), (4, .inl bk), (5, .inl u), (6, .inl j), (7, .inl rw_), (8, .inl x), (9, .inl (mt_pt n (x % n) ((y + j) % n)))]) (rest := []) rfl trivial (cm_point hB (u + x) rw_ ⟨by omega, by omega⟩ ⟨by omega, by omega⟩) ?_
        intro r_1 h_1 e_1; rw [e_1.1, e_1.2]
        refine pg_br 9 (L := [0 ≤ (mt_pt n (x % n) ((y + j) % n)) ∧ (mt_pt n (x % n) ((y + j) % n)) < (144 : Int), 0 ≤ (mt_pt n ((u + x) % n) (rw_ % n)) ∧ (mt_pt n ((u + x) % n) (rw_ % n)) < (144 : Int)]) (P := pg_inR (h 7 ((mt_pt n (x % n) ((y + j) % n)).toNat)) ∧ pg_inR (h 7 ((mt_pt n ((u + x) % n) (rw_ % n)).toNat))) (c := (h 7 ((mt_pt n (x % n) ((y + j) % n)).toNat)) = (h 7 ((mt_pt n ((u + x) % n) (rw_ % n)).toNat))) (st1 := (106, [(0, .inr (.inr 6)), (1, .inl y), (2, .inl w), (3, .inl tb), (4, .inl bk), (5, .inl u), (6, .inl j), (7, .inl rw_), (8, .inl x), (9, .inl (mt_pt n (x % n) ((y + j) % n))), (10, .inl (mt_pt n ((u + x) % n) (rw_ % n)))], [], h)) (st2 := (104, [(0, .inr (.inr 6)), (1, .inl y), (2, .inl w), (3, .inl tb), (4, .inl bk), (5, .inl u), (6, .inl j), (7, .inl rw_), (8, .inl x), (9, .inl (mt_pt n (x % n) ((y + j) % n))), (10, .inl (mt_pt n ((u + x) % n) (rw_ % n)))], [], h)) rfl ⟨⟨by omega, by omega⟩, ⟨by omega, by omega⟩⟩ ⟨⟨by omega, by omega⟩, ⟨by omega, by omega⟩⟩ (fun c_101_4 => ?_) (fun c_101_4 => ?_)
        · refine pg_go 2 (L := []) (st' := (31, [(0, .inr (.inr 6)), (1, .inl y), (2, .inl w), (3, .inl tb), (4, .inl bk), (5, .inl u), (6, .inl j), (7, .inl rw_), (8, .inl (x + 1)), (9, .inl (mt_pt n (x % n) ((y + j) % n))), (10, .inl (mt_pt n ((u + x) % n) (rw_ % n)))], [], h)) rfl trivial ?_
          refine pg_pick [0, 1, 2, 3, 4, 5, 6, 7, 8] rfl ?_
          refine ih _ (by omega) (by omega) (fun a h1 h2 => ?_) hK
          rcases (show a < x ∨ a = x by omega) with h3 | rfl
          · exact hrow a h1 h3
          · rw [eqx]; first | (rw [if_pos (by omega)]; assumption) | (rw [if_neg (by omega)]; assumption)
        · refine pg_re 1 (L := [0 = 0 ∨ 0 = 1]) (r := some (.inl 0)) (h0 := h) rfl (Or.inl rfl) ?_
          refine ⟨?_, rfl⟩
          rw [pg_b_f]
          intro hsy
          have hsy := eqx.mp (hsy j x (by omega) (by omega) (by omega) (by omega))
          first | (rw [if_pos (by omega)] at hsy; contradiction) | (rw [if_neg (by omega)] at hsy; contradiction)
      · refine pg_ca 5 (L := []) (Mc := pm_M_point) (as := [.inr (.inr 4), .inl (u - x), .inl rw_]) (h0 := h) (pc := 85) (lv := [(0, .inr (.inr 6)), (1, .inl y), (2, .inl w), (3, .inl tb), (4, .inl bk), (5, .inl u), (6, .inl j), (7, .inl rw_), (8, .inl x), (9, .inl (mt_pt n (x % n) ((y + j) % n)))]) (rest := []) rfl trivial (cm_point hB (u - x) rw_ ⟨by omega, by omega⟩ ⟨by omega, by omega⟩) ?_
        intro r_1 h_1 e_1; rw [e_1.1, e_1.2]
        refine pg_br 9 (L := [0 ≤ (mt_pt n (x % n) ((y + j) % n)) ∧ (mt_pt n (x % n) ((y + j) % n)) < (144 : Int), 0 ≤ (mt_pt n ((u - x) % n) (rw_ % n)) ∧ (mt_pt n ((u - x) % n) (rw_ % n)) < (144 : Int)]) (P := pg_inR (h 7 ((mt_pt n (x % n) ((y + j) % n)).toNat)) ∧ pg_inR (h 7 ((mt_pt n ((u - x) % n) (rw_ % n)).toNat))) (c := (h 7 ((mt_pt n (x % n) ((y + j) % n)).toNat)) = (h 7 ((mt_pt n ((u - x) % n) (rw_ % n)).toNat))) (st1 := (106, [(0, .inr (.inr 6)), (1, .inl y), (2, .inl w), (3, .inl tb), (4, .inl bk), (5, .inl u), (6, .inl j), (7, .inl rw_), (8, .inl x), (9, .inl (mt_pt n (x % n) ((y + j) % n))), (10, .inl (mt_pt n ((u - x) % n) (rw_ % n)))], [], h)) (st2 := (104, [(0, .inr (.inr 6)), (1, .inl y), (2, .inl w), (3, .inl tb), (4, .inl bk), (5, .inl u), (6, .inl j), (7, .inl rw_), (8, .inl x), (9, .inl (mt_pt n (x % n) ((y + j) % n))), (10, .inl (mt_pt n ((u - x) % n) (rw_ % n)))], [], h)) rfl ⟨⟨by omega, by omega⟩, ⟨by omega, by omega⟩⟩ ⟨⟨by omega, by omega⟩, ⟨by omega, by omega⟩⟩ (fun c_101_5 => ?_) (fun c_101_5 => ?_)
        · refine pg_go 2 (L := []) (st' := (31, [(0, .inr (.inr 6)), (1, .inl y), (2, .inl w), (3, .inl tb), (4, .inl bk), (5, .inl u), (6, .inl j), (7, .inl rw_), (8, .inl (x + 1)), (9, .inl (mt_pt n (x % n) ((y + j) % n))), (10, .inl (mt_pt n ((u - x) % n) (rw_ % n)))], [], h)) rfl trivial ?_
          refine pg_pick [0, 1, 2, 3, 4, 5, 6, 7, 8] rfl ?_
          refine ih _ (by omega) (by omega) (fun a h1 h2 => ?_) hK
          rcases (show a < x ∨ a = x by omega) with h3 | rfl
          · exact hrow a h1 h3
          · rw [eqx]; first | (rw [if_pos (by omega)]; assumption) | (rw [if_neg (by omega)]; assumption)
        · refine pg_re 1 (L := [0 = 0 ∨ 0 = 1]) (r := some (.inl 0)) (h0 := h) rfl (Or.inl rfl) ?_
          refine ⟨?_, rfl⟩
          rw [pg_b_f]
          intro hsy
          have hsy := eqx.mp (hsy j x (by omega) (by omega) (by omega) (by omega))
          first | (rw [if_pos (by omega)] at hsy; contradiction) | (rw [if_neg (by omega)] at hsy; contradiction)
theorem cp_ks_y {h : pg_H} {s n : Int} (hB : cm_B h s n) (hC : cp_C h) {y w tb bk u : Int} (hy : 0 ≤ y ∧ y ≤ 100) (hw : 0 ≤ w ∧ w ≤ 100) (ht : tb = 0 ∨ tb = 1) (hb : bk = 0 ∨ bk = 1) (hu : -100 ≤ u ∧ u ≤ 100) : ∀ (d : Nat) (j : Int) (hd : j + (d : Int) = w) (hj : 0 ≤ j) (hrow : ∀ a b : Int, 0 ≤ a → a < j → 0 ≤ b → b < n → h 7 (mt_pt n (b % n) ((y + a) % n)).toNat = h 7 (mt_pt n ((if bk = 0 then u + b else u - b) % n) ((y + (if tb = 0 then a else w - 1 - a)) % n)).toNat), pg_Good true pm_C_keepsStrip (fun r h' => r = some (.inl (pg_b (mt_st (h 7) n y w tb bk u))) ∧ h' = h) (3, [(0, .inr (.inr 6)), (1, .inl y), (2, .inl w), (3, .inl tb), (4, .inl bk), (5, .inl u), (6, .inl j)], [], h) := by
  intro d
  induction d with
  | zero =>
    intro j hd hj hrow
    obtain ⟨hs, ⟨hn1, hn2⟩, e1, e2, e3, e5⟩ := id hB
    have hr := mt_rd_or hs
    refine pg_br 2 (L := []) (P := pg_inR j ∧ pg_inR w) (c := w ≤ j) (st1 := (118, [(0, .inr (.inr 6)), (1, .inl y), (2, .inl w), (3, .inl tb), (4, .inl bk), (5, .inl u), (6, .inl j)], [], h)) (st2 := (9, [(0, .inr (.inr 6)), (1, .inl y), (2, .inl w), (3, .inl tb), (4, .inl bk), (5, .inl u), (6, .inl j)], [], h)) rfl trivial ⟨⟨by omega, by omega⟩, ⟨by omega, by omega⟩⟩ (fun c_6_1 => ?_) (fun c_6_1 => ?_)
    · refine pg_re 1 (L := [1 = 0 ∨ 1 = 1]) (r := some (.inl 1)) (h0 := h) rfl (Or.inr rfl) ?_
      refine ⟨?_, rfl⟩
      rw [pg_b_t]
      intro a b h1 h2 h3 h4
      exact hrow a b h1 (by omega) h3 h4
    · exact (by exfalso; omega)
  | succ d ih =>
    intro j hd hj hrow
    obtain ⟨hs, ⟨hn1, hn2⟩, e1, e2, e3, e5⟩ := id hB
    have hr := mt_rd_or hs
    refine pg_br 2 (L := []) (P := pg_inR j ∧ pg_inR w) (c := w ≤ j) (st1 := (118, [(0, .inr (.inr 6)), (1, .inl y), (2, .inl w), (3, .inl tb), (4, .inl bk), (5, .inl u), (6, .inl j)], [], h)) (st2 := (9, [(0, .inr (.inr 6)), (1, .inl y), (2, .inl w), (3, .inl tb), (4, .inl bk), (5, .inl u), (6, .inl j)], [], h)) rfl trivial ⟨⟨by omega, by omega⟩, ⟨by omega, by omega⟩⟩ (fun c_6_2 => ?_) (fun c_6_2 => ?_)
    · exact (by exfalso; omega)
    · refine pg_br 2 (L := []) (P := pg_inR tb) (c := tb = 0) (st1 := (23, [(0, .inr (.inr 6)), (1, .inl y), (2, .inl w), (3, .inl tb), (4, .inl bk), (5, .inl u), (6, .inl j)], [.inl y], h)) (st2 := (14, [(0, .inr (.inr 6)), (1, .inl y), (2, .inl w), (3, .inl tb), (4, .inl bk), (5, .inl u), (6, .inl j)], [.inl y], h)) rfl trivial ⟨by omega, by omega⟩ (fun c_11_3 => ?_) (fun c_11_3 => ?_)
      · refine pg_go 5 (L := []) (st' := (31, [(0, .inr (.inr 6)), (1, .inl y), (2, .inl w), (3, .inl tb), (4, .inl bk), (5, .inl u), (6, .inl j), (7, .inl (y + j)), (8, .inl 0)], [], h)) rfl trivial ?_
        refine cp_ks_x hB hC hy hw ht hb hu (j := j) ⟨by omega, by omega⟩ ?_ ⟨by omega, by omega⟩ n.toNat _ (by omega) (by omega) (fun a h1 h2 => by omega) (fun hr2 => ?_)
        · first | (rw [if_pos (by omega)]; done) | (rw [if_neg (by omega)]; done)
        · refine pg_go 2 (L := []) (st' := (3, [(0, .inr (.inr 6)), (1, .inl y), (2, .inl w), (3, .inl tb), (4, .inl bk), (5, .inl u), (6, .inl (j + 1))], [], h)) rfl trivial ?_
          refine ih _ (by omega) (by omega) (fun a b h1 h2 h3 h4 => ?_)
          rcases (show a < j ∨ a = j by omega) with h5 | rfl
          · exact hrow a b h1 h5 h3 h4
          · exact hr2 b h3 h4
      · refine pg_go 10 (L := []) (st' := (31, [(0, .inr (.inr 6)), (1, .inl y), (2, .inl w), (3, .inl tb), (4, .inl bk), (5, .inl u), (6, .inl j), (7, .inl (y + ((w - 1) - j))), (8, .inl 0)], [], h)) rfl trivial ?_
        refine cp_ks_x hB hC hy hw ht hb hu (j := j) ⟨by omega, by omega⟩ ?_ ⟨by omega, by omega⟩ n.toNat _ (by omega) (by omega) (fun a h1 h2 => by omega) (fun hr2 => ?_)
        · first | (rw [if_pos (by omega)]; done) | (rw [if_neg (by omega)]; done)
        · refine pg_go 2 (L := []) (st' := (3, [(0, .inr (.inr 6)), (1, .inl y), (2, .inl w), (3, .inl tb), (4, .inl bk), (5, .inl u), (6, .inl (j + 1))], [], h)) rfl trivial ?_
          refine ih _ (by omega) (by omega) (fun a b h1 h2 h3 h4 => ?_)
          rcases (show a < j ∨ a = j by omega) with h5 | rfl
          · exact hrow a b h1 h5 h3 h4
          · exact hr2 b h3 h4
theorem cp_ks {h : pg_H} {s n : Int} (hB : cm_B h s n) (hC : cp_C h) {y w tb bk u : Int} (hy : 0 ≤ y ∧ y ≤ 100) (hw : 0 ≤ w ∧ w ≤ 100) (ht : tb = 0 ∨ tb = 1) (hb : bk = 0 ∨ bk = 1) (hu : -100 ≤ u ∧ u ≤ 100) : pg_Sem true pm_C_keepsStrip [.inr (.inr 6), .inl y, .inl w, .inl tb, .inl bk, .inl u] h (fun r h' => r = some (.inl (pg_b (mt_st (h 7) n y w tb bk u))) ∧ h' = h) := by
  obtain ⟨hs, ⟨hn1, hn2⟩, e1, e2, e3, e5⟩ := id hB
  have hr := mt_rd_or hs
  refine pg_Sem_of pm_C_keepsStrip_f rfl ?_
  refine pg_go 2 (L := []) (st' := (3, [(0, .inr (.inr 6)), (1, .inl y), (2, .inl w), (3, .inl tb), (4, .inl bk), (5, .inl u), (6, .inl 0)], [], h)) rfl trivial ?_
  exact cp_ks_y hB hC hy hw ht hb hu w.toNat _ (by omega) (by omega) (fun a b h1 h2 h3 h4 => by omega)
theorem cp_to_l {h : pg_H} {s n : Int} (hB : cm_B h s n) (hC : cp_C h) {y w tb bk : Int} (hy : 0 ≤ y ∧ y ≤ 100) (hw : 0 ≤ w ∧ w ≤ 100) (ht : tb = 0 ∨ tb = 1) (hb : bk = 0 ∨ bk = 1) : ∀ (d : Nat) (u : Int) (hd : u + (d : Int) = n) (hu : 0 ≤ u) (hno : ∀ a : Int, 0 ≤ a → a < u → ¬ mt_st (h 7) n y w tb bk a), pg_Good true pm_C_stripTurnsOver (fun r h' => r = some (.inl (pg_b (∃ u : Int, 0 ≤ u ∧ u < n ∧ mt_st (h 7) n y w tb bk u))) ∧ h' = h) (3, [(0, .inr (.inr 6)), (1, .inl y), (2, .inl w), (3, .inl tb), (4, .inl bk), (5, .inl u)], [], h) := by
  intro d
  induction d with
  | zero =>
    intro u hd hu hno
    obtain ⟨hs, ⟨hn1, hn2⟩, e1, e2, e3, e5⟩ := id hB
    have hr := mt_rd_or hs
    refine pg_br 4 (L := []) (P := pg_inR u ∧ pg_inR (h 4 2)) (c := (h 4 2) ≤ u) (st1 := (37, [(0, .inr (.inr 6)), (1, .inl y), (2, .inl w), (3, .inl tb), (4, .inl bk), (5, .inl u)], [], h)) (st2 := (15, [(0, .inr (.inr 6)), (1, .inl y), (2, .inl w), (3, .inl tb), (4, .inl bk), (5, .inl u)], [], h)) rfl trivial ⟨⟨by omega, by omega⟩, ⟨by omega, by omega⟩⟩ (fun c_12_1 => ?_) (fun c_12_1 => ?_)
    · refine pg_re 1 (L := [0 = 0 ∨ 0 = 1]) (r := some (.inl 0)) (h0 := h) rfl (Or.inl rfl) ?_
      refine ⟨?_, rfl⟩
      rw [pg_b_f]
      rintro ⟨a, h1, h2, h3⟩
      exact hno a h1 (by omega) h3
    · exact (by exfalso; omega)
  | succ d ih =>
    intro u hd hu hno
    obtain ⟨hs, ⟨hn1, hn2⟩, e1, e2, e3, e5⟩ := id hB
    have hr := mt_rd_or hs
    have hbo := pg_b_or (mt_st (h 7) n y w tb bk u)
    refine pg_br 4 (L := []) (P := pg_inR u ∧ pg_inR (h 4 2)) (c := (h 4 2) ≤ u) (st1 := (37, [(0, .inr (.inr 6)), (1, .inl y), (2, .inl w), (3, .inl tb), (4, .inl bk), (5, .inl u)], [], h)) (st2 := (15, [(0, .inr (.inr 6)), (1, .inl y), (2, .inl w), (3, .inl tb), (4, .inl bk), (5, .inl u)], [], h)) rfl trivial ⟨⟨by omega, by omega⟩, ⟨by omega, by omega⟩⟩ (fun c_12_2 => ?_) (fun c_12_2 => ?_)
    · exact (by exfalso; omega)
    · refine pg_ca 6 (L := []) (Mc := pm_C_keepsStrip) (as := [.inr (.inr 6), .inl y, .inl w, .inl tb, .inl bk, .inl u]) (h0 := h) (pc := 26) (lv := [(0, .inr (.inr 6)), (1, .inl y), (2, .inl w), (3, .inl tb), (4, .inl bk), (5, .inl u)]) (rest := []) rfl trivial (cp_ks hB hC (y := y) (w := w) (tb := tb) (bk := bk) (u := u) ⟨by omega, by omega⟩ ⟨by omega, by omega⟩ (by omega) (by omega) ⟨by omega, by omega⟩) ?_
      intro r_1 h_1 e_1; rw [e_1.1, e_1.2]
      refine pg_br 0 (L := []) (P := pg_inR (pg_b (mt_st (h 7) n y w tb bk u))) (c := (pg_b (mt_st (h 7) n y w tb bk u)) = 0) (st1 := (31, [(0, .inr (.inr 6)), (1, .inl y), (2, .inl w), (3, .inl tb), (4, .inl bk), (5, .inl u)], [], h)) (st2 := (29, [(0, .inr (.inr 6)), (1, .inl y), (2, .inl w), (3, .inl tb), (4, .inl bk), (5, .inl u)], [], h)) rfl trivial ⟨by omega, by omega⟩ (fun c_26_3 => ?_) (fun c_26_3 => ?_)
      · refine pg_go 2 (L := []) (st' := (3, [(0, .inr (.inr 6)), (1, .inl y), (2, .inl w), (3, .inl tb), (4, .inl bk), (5, .inl (u + 1))], [], h)) rfl trivial ?_
        refine ih _ (by omega) (by omega) (fun a h1 h2 => ?_)
        rcases (show a < u ∨ a = u by omega) with h3 | rfl
        · exact hno a h1 h3
        · rcases hbo with hq | hq
          · omega
          · exact hq.1
      · refine pg_re 1 (L := [1 = 0 ∨ 1 = 1]) (r := some (.inl 1)) (h0 := h) rfl (Or.inr rfl) ?_
        refine ⟨?_, rfl⟩
        rw [pg_b_t]
        rcases hbo with hq | hq
        · exact ⟨u, by omega, by omega, hq.1⟩
        · omega
theorem cp_to {h : pg_H} {s n : Int} (hB : cm_B h s n) (hC : cp_C h) {y w tb bk : Int} (hy : 0 ≤ y ∧ y ≤ 100) (hw : 0 ≤ w ∧ w ≤ 100) (ht : tb = 0 ∨ tb = 1) (hb : bk = 0 ∨ bk = 1) : pg_Sem true pm_C_stripTurnsOver [.inr (.inr 6), .inl y, .inl w, .inl tb, .inl bk] h (fun r h' => r = some (.inl (pg_b (∃ u : Int, 0 ≤ u ∧ u < n ∧ mt_st (h 7) n y w tb bk u))) ∧ h' = h) := by
  obtain ⟨hs, ⟨hn1, hn2⟩, e1, e2, e3, e5⟩ := id hB
  have hr := mt_rd_or hs
  refine pg_Sem_of pm_C_stripTurnsOver_f rfl ?_
  refine pg_go 2 (L := []) (st' := (3, [(0, .inr (.inr 6)), (1, .inl y), (2, .inl w), (3, .inl tb), (4, .inl bk), (5, .inl 0)], [], h)) rfl trivial ?_
  exact cp_to_l hB hC hy hw ht hb n.toNat _ (by omega) (by omega) (fun a h1 h2 => by omega)
/-- Reached: a set of numbers below 5184, with their order -/
def rc_I (h : pg_H) : Prop := (0 ≤ h 1 2 ∧ h 1 2 = pg_cn (fun p => h 2 p = 1) 5184) ∧ (∀ p : Nat, p < 5184 → h 2 p = 0 ∨ h 2 p = 1) ∧ (∀ j : Nat, (j : Int) < h 1 2 → 0 ≤ h 3 j ∧ h 3 j < 5184 ∧ h 2 (h 3 j).toNat = 1) ∧ ∀ p : Nat, p < 5184 → h 2 p = 1 → ∃ j : Nat, (j : Int) < h 1 2 ∧ h 3 j = p
theorem pg_cn_lt {P : Nat → Prop} {m j : Nat} (hj : j < m) (hn : ¬ P j) : pg_cn P m < m := by
  induction m with
  | zero => omega
  | succ m ih =>
    simp only [pg_cn]
    have hb := pg_cn_bd P m
    have h01 := pg_b_01 (P m)
    rcases (show j < m ∨ j = m by omega) with h | rfl
    · have := ih h
      omega
    · rw [pg_b_f hn]
      omega
theorem pg_cn_0 {P : Nat → Prop} {m : Nat} (h : ∀ j, j < m → ¬ P j) : pg_cn P m = 0 := by
  induction m with
  | zero => rfl
  | succ m ih =>
    simp only [pg_cn]
    rw [ih (fun j hj => h j (by omega)), pg_b_f (h m (by omega))]
    rfl
theorem rc_I_lt {h : pg_H} (hI : rc_I h) {p : Nat} (hp : p < 5184) (h0 : h 2 p = 0) : h 1 2 < 5184 := by
  rw [hI.1.2]
  exact pg_cn_lt hp (by omega)
theorem rc_I_le {h : pg_H} (hI : rc_I h) : h 1 2 ≤ 5184 := by
  rw [hI.1.2]
  exact (pg_cn_bd _ _).2
theorem rc_add {h : pg_H} (hI : rc_I h) {p : Int} (hp : 0 ≤ p ∧ p < 5184) (h0 : h 2 p.toNat = 0) : rc_I (pg_up (pg_up (pg_up h 2 p.toNat 1) 3 (h 1 2).toNat p) 1 2 (h 1 2 + 1)) := by
  obtain ⟨⟨i0, i1⟩, i2, i3, i4⟩ := id hI
  have e1 : pg_up (pg_up (pg_up h 2 p.toNat 1) 3 (h 1 2).toNat p) 1 2 (h 1 2 + 1) 1 2 = h 1 2 + 1 := rfl
  have e2 : ∀ q, pg_up (pg_up (pg_up h 2 p.toNat 1) 3 (h 1 2).toNat p) 1 2 (h 1 2 + 1) 2 q = if q = p.toNat then 1 else h 2 q := fun q => by
    rw [pg_up_ne _ _ _ (by decide), pg_up_ne _ _ _ (by decide), pg_up_at]
  have e3 : ∀ q, pg_up (pg_up (pg_up h 2 p.toNat 1) 3 (h 1 2).toNat p) 1 2 (h 1 2 + 1) 3 q = if q = (h 1 2).toNat then p else h 3 q := fun q => by
    rw [pg_up_ne _ _ _ (by decide), pg_up_at, pg_up_ne _ _ _ (by decide)]
  refine ⟨⟨by rw [e1]; omega, ?_⟩, fun q hq => ?_, fun j hj => ?_, fun q hq h1 => ?_⟩
  · have : (fun q => pg_up (pg_up (pg_up h 2 p.toNat 1) 3 (h 1 2).toNat p) 1 2 (h 1 2 + 1) 2 q = 1) = (fun q => (if q = p.toNat then 1 else h 2 q) = (1 : Int)) := by
      funext q
      rw [e2]
    rw [e1, this, pg_cn_up (h 2) p.toNat 1 1 5184 (by omega), ← i1, pg_b_t rfl, pg_b_f (by omega)]
    omega
  · rw [e2]
    split
    · exact Or.inr rfl
    · exact i2 q hq
  · rw [e1] at hj
    rw [e3, e2]
    by_cases hc : j = (h 1 2).toNat
    · rw [if_pos hc, if_pos rfl]
      exact ⟨hp.1, hp.2, rfl⟩
    · rw [if_neg hc]
      obtain ⟨a1, a2, a3⟩ := i3 j (by omega)
      refine ⟨a1, a2, ?_⟩
      split
      · rfl
      · exact a3
  · rw [e2] at h1
    rw [e1]
    by_cases hc : q = p.toNat
    · exact ⟨(h 1 2).toNat, by omega, by rw [e3, if_pos rfl]; omega⟩
    · rw [if_neg hc] at h1
      obtain ⟨j, a1, a2⟩ := i4 q hq h1
      exact ⟨j, by omega, by rw [e3, if_neg (by omega)]; exact a2⟩
theorem cr_has {h : pg_H} (hI : rc_I h) (p : Int) (hp : pg_inR p) : pg_Sem true pm_R_has [.inr (.inr 1), .inl p] h (fun r h' => r = some (.inl (pg_b (0 ≤ p ∧ p < 5184 ∧ h 2 p.toNat = 1))) ∧ h' = h) := by
  obtain ⟨hp1, hp2⟩ := hp
  have h2 : 0 ≤ p → p < 5184 → h 2 p.toNat = 0 ∨ h 2 p.toNat = 1 := fun a b => hI.2.1 p.toNat (by omega)
  refine pg_Sem_of pm_R_has_f rfl ?_
  refine pg_br 1 (L := []) (P := pg_inR p) (c := p < 0) (st1 := (24, [(0, .inr (.inr 1)), (1, .inl p)], [], h)) (st2 := (4, [(0, .inr (.inr 1)), (1, .inl p)], [], h)) rfl trivial ⟨by omega, by omega⟩ (fun c_1_1 => ?_) (fun c_1_1 => ?_)
  · refine pg_re 1 (L := [0 = 0 ∨ 0 = 1]) (r := some (.inl 0)) (h0 := h) rfl (Or.inl rfl) ?_
    refine ⟨?_, rfl⟩
    first | rw [pg_b_t (by omega)] | rw [pg_b_f (by omega)]
  · refine pg_br 2 (L := []) (P := pg_inR p ∧ pg_inR 5184) (c := 5184 ≤ p) (st1 := (24, [(0, .inr (.inr 1)), (1, .inl p)], [], h)) (st2 := (11, [(0, .inr (.inr 1)), (1, .inl p)], [], h)) rfl trivial ⟨⟨by omega, by omega⟩, ⟨by decide, by decide⟩⟩ (fun c_8_2 => ?_) (fun c_8_2 => ?_)
    · refine pg_re 1 (L := [0 = 0 ∨ 0 = 1]) (r := some (.inl 0)) (h0 := h) rfl (Or.inl rfl) ?_
      refine ⟨?_, rfl⟩
      first | rw [pg_b_t (by omega)] | rw [pg_b_f (by omega)]
    · refine pg_br 4 (L := [0 ≤ p ∧ p < (5184 : Int)]) (P := pg_inR (h 2 p.toNat)) (c := (h 2 p.toNat) = 0) (st1 := (24, [(0, .inr (.inr 1)), (1, .inl p)], [], h)) (st2 := (20, [(0, .inr (.inr 1)), (1, .inl p)], [], h)) rfl ⟨by omega, by omega⟩ ⟨by omega, by omega⟩ (fun c_17_3 => ?_) (fun c_17_3 => ?_)
      · refine pg_re 1 (L := [0 = 0 ∨ 0 = 1]) (r := some (.inl 0)) (h0 := h) rfl (Or.inl rfl) ?_
        refine ⟨?_, rfl⟩
        first | rw [pg_b_t (by omega)] | rw [pg_b_f (by omega)]
      · refine pg_re 2 (L := [1 = 0 ∨ 1 = 1]) (r := some (.inl 1)) (h0 := h) rfl (Or.inr rfl) ?_
        refine ⟨?_, rfl⟩
        first | rw [pg_b_t (by omega)] | rw [pg_b_f (by omega)]
theorem cr_add {h : pg_H} (hI : rc_I h) (p : Int) (hp : 0 ≤ p ∧ p < 5184) : pg_Sem true pm_R_add [.inr (.inr 1), .inl p] h (fun r h' => (h 2 p.toNat = 1 ∧ r = some (.inl 0) ∧ h' = h) ∨ (h 2 p.toNat = 0 ∧ r = some (.inl 1) ∧ h' = pg_up (pg_up (pg_up h 2 p.toNat 1) 3 (h 1 2).toNat p) 1 2 (h 1 2 + 1))) := by
  have h2 := hI.2.1 p.toNat (by omega)
  have h3 := rc_I_lt hI (p := p.toNat) (by omega)
  have h4 := rc_I_le hI
  have h5 := hI.1.1
  refine pg_Sem_of pm_R_add_f rfl ?_
  refine pg_br 1 (L := []) (P := pg_inR p) (c := p < 0) (st1 := (30, [(0, .inr (.inr 1)), (1, .inl p)], [], h)) (st2 := (4, [(0, .inr (.inr 1)), (1, .inl p)], [], h)) rfl trivial ⟨by omega, by omega⟩ (fun c_1_1 => ?_) (fun c_1_1 => ?_)
  · exact (by exfalso; omega)
  · refine pg_br 2 (L := []) (P := pg_inR p ∧ pg_inR 5184) (c := 5184 ≤ p) (st1 := (30, [(0, .inr (.inr 1)), (1, .inl p)], [], h)) (st2 := (11, [(0, .inr (.inr 1)), (1, .inl p)], [], h)) rfl trivial ⟨⟨by omega, by omega⟩, ⟨by decide, by decide⟩⟩ (fun c_8_2 => ?_) (fun c_8_2 => ?_)
    · exact (by exfalso; omega)
    · refine pg_br 4 (L := [0 ≤ p ∧ p < (5184 : Int)]) (P := pg_inR (h 2 p.toNat)) (c := ¬ (h 2 p.toNat) = 0) (st1 := (30, [(0, .inr (.inr 1)), (1, .inl p)], [], h)) (st2 := (20, [(0, .inr (.inr 1)), (1, .inl p)], [], h)) rfl ⟨by omega, by omega⟩ ⟨by omega, by omega⟩ (fun c_17_3 => ?_) (fun c_17_3 => ?_)
      · refine pg_re 1 (L := [0 = 0 ∨ 0 = 1]) (r := some (.inl 0)) (h0 := h) rfl (Or.inl rfl) ?_
        exact Or.inl ⟨by omega, rfl, rfl⟩
      · refine pg_br 3 (L := []) (P := pg_inR (h 1 2) ∧ pg_inR 5184) (c := (h 1 2) < 5184) (st1 := (32, [(0, .inr (.inr 1)), (1, .inl p)], [], h)) (st2 := (30, [(0, .inr (.inr 1)), (1, .inl p)], [], h)) rfl trivial ⟨⟨by omega, by omega⟩, ⟨by decide, by decide⟩⟩ (fun c_27_4 => ?_) (fun c_27_4 => ?_)
        · refine pg_re 18 (L := [0 ≤ p ∧ p < (5184 : Int), 1 = 0 ∨ 1 = 1, 0 ≤ (h 1 2) ∧ (h 1 2) < (5184 : Int), 1 = 0 ∨ 1 = 1]) (r := some (.inl 1)) (h0 := pg_up (pg_up (pg_up h 2 p.toNat 1) 3 ((h 1 2).toNat) p) 1 2 ((h 1 2) + 1)) rfl ⟨⟨by omega, by omega⟩, Or.inr rfl, ⟨by omega, by omega⟩, Or.inr rfl⟩ ?_
          exact Or.inr ⟨by omega, rfl, rfl⟩
        · exact (by exfalso; omega)
theorem cr_at {h : pg_H} (hI : rc_I h) (j : Int) (hj : 0 ≤ j ∧ j < h 1 2) : pg_Sem true pm_R_at [.inr (.inr 1), .inl j] h (fun r h' => r = some (.inl (h 3 j.toNat)) ∧ h' = h) := by
  have h4 := rc_I_le hI
  have h5 := hI.1.1
  refine pg_Sem_of pm_R_at_f rfl ?_
  refine pg_br 1 (L := []) (P := pg_inR j) (c := j < 0) (st1 := (12, [(0, .inr (.inr 1)), (1, .inl j)], [], h)) (st2 := (4, [(0, .inr (.inr 1)), (1, .inl j)], [], h)) rfl trivial ⟨by omega, by omega⟩ (fun c_1_1 => ?_) (fun c_1_1 => ?_)
  · exact (by exfalso; omega)
  · refine pg_br 3 (L := []) (P := pg_inR j ∧ pg_inR (h 1 2)) (c := j < (h 1 2)) (st1 := (16, [(0, .inr (.inr 1)), (1, .inl j)], [], h)) (st2 := (12, [(0, .inr (.inr 1)), (1, .inl j)], [], h)) rfl trivial ⟨⟨by omega, by omega⟩, ⟨by omega, by omega⟩⟩ (fun c_9_2 => ?_) (fun c_9_2 => ?_)
    · refine pg_re 4 (L := [0 ≤ j ∧ j < (5184 : Int)]) (r := some (.inl (h 3 j.toNat))) (h0 := h) rfl ⟨by omega, by omega⟩ ?_
      exact ⟨rfl, rfl⟩
    · exact (by exfalso; omega)
theorem cr_clear_l {h : pg_H} (hI : rc_I h) : ∀ (d : Nat) (g : pg_H) (j : Int) (hd : j + (d : Int) = h 1 2) (hj : 0 ≤ j) (hf : pg_fr [2] h g) (hg : ∀ p : Nat, p < 5184 → g 2 p = 0 ∨ ∃ a : Nat, j ≤ (a : Int) ∧ (a : Int) < h 1 2 ∧ h 3 a = p), pg_Good true pm_R_clear (fun r h' => r = none ∧ pg_fr [1, 2] h h' ∧ h' 1 2 = 0 ∧ ∀ p : Nat, p < 5184 → h' 2 p = 0) (2, [(0, .inr (.inr 1)), (1, .inl j)], [], g) := by
  intro d
  induction d with
  | zero =>
    intro g j hd hj hf hg
    have e1 : g 1 = h 1 := hf 1 (by decide)
    have e12 : g 1 2 = h 1 2 := by rw [e1]
    have h4 := rc_I_le hI
    have h5 := hI.1.1
    refine pg_br 3 (L := []) (P := pg_inR j ∧ pg_inR (g 1 2)) (c := (g 1 2) ≤ j) (st1 := (28, [(0, .inr (.inr 1)), (1, .inl j)], [], g)) (st2 := (10, [(0, .inr (.inr 1)), (1, .inl j)], [], g)) rfl trivial ⟨⟨by omega, by omega⟩, ⟨by omega, by omega⟩⟩ (fun c_7_1 => ?_) (fun c_7_1 => ?_)
    · refine pg_re 3 (L := []) (r := none) (h0 := pg_up g 1 2 0) rfl trivial ?_
      refine ⟨rfl, pg_fr_up (pg_fr_tr (pg_fr_rf _ _) hf (by decide)) (by decide) _ _, rfl, fun p hp => ?_⟩
      rcases hg p hp with h1 | ⟨a, h1, h2, -⟩
      · exact h1
      · omega
    · exact (by exfalso; omega)
  | succ d ih =>
    intro g j hd hj hf hg
    have e1 : g 1 = h 1 := hf 1 (by decide)
    have e3 : g 3 = h 3 := hf 3 (by decide)
    have e12 : g 1 2 = h 1 2 := by rw [e1]
    have h4 := rc_I_le hI
    have h5 := hI.1.1
    have h6 := hI.2.2.1 j.toNat (by omega)
    have e33 : g 3 j.toNat = h 3 j.toNat := by rw [e3]
    refine pg_br 3 (L := []) (P := pg_inR j ∧ pg_inR (g 1 2)) (c := (g 1 2) ≤ j) (st1 := (28, [(0, .inr (.inr 1)), (1, .inl j)], [], g)) (st2 := (10, [(0, .inr (.inr 1)), (1, .inl j)], [], g)) rfl trivial ⟨⟨by omega, by omega⟩, ⟨by omega, by omega⟩⟩ (fun c_7_2 => ?_) (fun c_7_2 => ?_)
    · exact (by exfalso; omega)
    · refine pg_go 10 (L := [0 ≤ j ∧ j < (5184 : Int), 0 ≤ (g 3 j.toNat) ∧ (g 3 j.toNat) < (5184 : Int), 0 = 0 ∨ 0 = 1]) (st' := (2, [(0, .inr (.inr 1)), (1, .inl (j + 1))], [], pg_up g 2 ((g 3 j.toNat).toNat) 0)) rfl ⟨⟨by omega, by omega⟩, ⟨by omega, by omega⟩, Or.inl rfl⟩ ?_
      refine ih _ _ (by omega) (by omega) (pg_fr_up hf (by decide) _ _) (fun p hp => ?_)
      rw [pg_up_at]
      split
      · exact Or.inl rfl
      · rename_i hne
        rcases hg p hp with h1 | ⟨a, h1, h2, h3⟩
        · exact Or.inl h1
        · refine Or.inr ⟨a, ?_, h2, h3⟩
          rcases (show (a : Int) = j ∨ j + 1 ≤ (a : Int) by omega) with h7 | h7
          · exfalso; apply hne; rw [e33, show j.toNat = a by omega, h3]; omega
          · exact h7
theorem cr_clear {h : pg_H} (hI : rc_I h) : pg_Sem true pm_R_clear [.inr (.inr 1)] h (fun r h' => r = none ∧ pg_fr [1, 2] h h' ∧ h' 1 2 = 0 ∧ ∀ p : Nat, p < 5184 → h' 2 p = 0) := by
  have h5 := hI.1.1
  refine pg_Sem_of pm_R_clear_f rfl ?_
  refine pg_go 2 (L := []) (st' := (2, [(0, .inr (.inr 1)), (1, .inl 0)], [], h)) rfl trivial ?_
  refine cr_clear_l hI (h 1 2).toNat h _ (by omega) (by omega) (pg_fr_rf _ _) (fun p hp => ?_)
  rcases hI.2.1 p hp with h1 | h1
  · exact Or.inl h1
  · obtain ⟨a, h2, h3⟩ := hI.2.2.2 p hp h1
    exact Or.inr ⟨a, by omega, h2, h3⟩
