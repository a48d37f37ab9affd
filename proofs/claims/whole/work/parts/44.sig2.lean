/-! Signature: the rest -/
theorem pg_mul7 {x j M : Int} (hx : 0 ≤ x ∧ x ≤ M) (hj : 0 ≤ j ∧ j ≤ 6) : 0 ≤ x * j ∧ x * j ≤ 6 * M := by
  have : j = 0 ∨ j = 1 ∨ j = 2 ∨ j = 3 ∨ j = 4 ∨ j = 5 ∨ j = 6 := by omega
  rcases this with rfl | rfl | rfl | rfl | rfl | rfl | rfl <;> omega
theorem pg_div_bd {x d M : Int} (hx : 0 ≤ x ∧ x ≤ M) (hd : 1 ≤ d) : 0 ≤ x / d ∧ x / d ≤ M := by
  have h1 := Int.ediv_nonneg hx.1 (show 0 ≤ d by omega)
  have h2 := Int.ediv_le_self d hx.1
  omega
theorem sg_pc_l {h : pg_H} (hb : ∀ r : Nat, r < 7 → (0 ≤ h 16 r ∧ h 16 r ≤ 10000) ∧ (0 ≤ h 17 r ∧ h 17 r ≤ 10000)) {l : Int} (hl : 1 ≤ l ∧ l ≤ 12) : ∀ (d : Nat) (g : pg_H) (j : Int) (hd : j + (d : Int) = 7) (hj : 0 ≤ j) (hf : pg_fr [16, 17] h g) (h1 : ∀ r : Nat, (r : Int) < j → g 16 r = h 16 r * r / l ∧ g 17 r = h 17 r * 2 * r / l) (h2 : ∀ r : Nat, j ≤ (r : Int) → g 16 r = h 16 r ∧ g 17 r = h 17 r), pg_Good true pm_G_placesToClasses (fun r h' => r = none ∧ pg_fr [16, 17] h h' ∧ ∀ r : Nat, r < 7 → h' 16 r = h 16 r * r / l ∧ h' 17 r = h 17 r * 2 * r / l) (14, [(0, .inr (.inr 15)), (1, .inl l), (2, .inl j)], [], g) := by
  intro d
  induction d with
  | zero =>
    intro g j hd hj hf h1 h2
    refine pg_br 2 (L := []) (P := pg_inR j ∧ pg_inR 6) (c := 6 < j) (st1 := (60, [(0, .inr (.inr 15)), (1, .inl l), (2, .inl j)], [], g)) (st2 := (20, [(0, .inr (.inr 15)), (1, .inl l), (2, .inl j)], [], g)) rfl trivial ⟨⟨by omega, by omega⟩, ⟨by decide, by decide⟩⟩ (fun c_17_1 => ?_) (fun c_17_1 => ?_)
    · refine pg_re 0 (L := []) (r := none) (h0 := g) rfl trivial ?_
      exact ⟨rfl, hf, fun r hr => h1 r (by omega)⟩
    · exact (by exfalso; omega)
  | succ d ih =>
    intro g j hd hj hf h1 h2
    have b1 := hb j.toNat (by omega)
    have b2 := h2 j.toNat (by omega)
    have m1 := pg_mul7 (x := g 16 j.toNat) (j := j) (M := 10000) (by omega) ⟨by omega, by omega⟩
    have m2 := pg_mul7 (x := g 17 j.toNat * 2) (j := j) (M := 20000) (by omega) ⟨by omega, by omega⟩
    have ej : ((j.toNat : Nat) : Int) = j := by omega
    refine pg_br 2 (L := []) (P := pg_inR j ∧ pg_inR 6) (c := 6 < j) (st1 := (60, [(0, .inr (.inr 15)), (1, .inl l), (2, .inl j)], [], g)) (st2 := (20, [(0, .inr (.inr 15)), (1, .inl l), (2, .inl j)], [], g)) rfl trivial ⟨⟨by omega, by omega⟩, ⟨by decide, by decide⟩⟩ (fun c_17_2 => ?_) (fun c_17_2 => ?_)
    · exact (by exfalso; omega)
    · refine pg_go 28 (L := [0 ≤ j ∧ j < (7 : Int), l ≠ 0 ∧ pg_inR ((g 16 j.toNat) * j) ∧ pg_inR l, 0 ≤ j ∧ j < (7 : Int), 0 ≤ j ∧ j < (7 : Int), l ≠ 0 ∧ pg_inR (((g 17 j.toNat) * 2) * j) ∧ pg_inR l, 0 ≤ j ∧ j < (7 : Int)]) (st' := (14, [(0, .inr (.inr 15)), (1, .inl l), (2, .inl (j + 1))], [], pg_up (pg_up g 16 j.toNat (Int.tdiv ((g 16 j.toNat) * j) l)) 17 j.toNat (Int.tdiv (((g 17 j.toNat) * 2) * j) l))) rfl ⟨⟨by omega, by omega⟩, ⟨by omega, ⟨by omega, by omega⟩, ⟨by omega, by omega⟩⟩, ⟨by omega, by omega⟩, ⟨by omega, by omega⟩, ⟨by omega, ⟨by omega, by omega⟩, ⟨by omega, by omega⟩⟩, ⟨by omega, by omega⟩⟩ ?_
      refine ih _ _ (by omega) (by omega) (pg_fr_up (pg_fr_up hf (by decide) _ _) (by decide) _ _) (fun r hr => ?_) (fun r hr => ?_)
      · rw [pg_up_at, pg_up_ne _ _ _ (by decide : (16 : Nat) ≠ 17), pg_up_at, pg_up_ne _ _ _ (by decide : (17 : Nat) ≠ 16)]
        by_cases hc : r = j.toNat
        · rw [if_pos hc, if_pos hc, hc, ej, pg_tdiv_nn m1.1, pg_tdiv_nn m2.1, b2.1, b2.2]; exact ⟨rfl, rfl⟩
        · rw [if_neg hc, if_neg hc]; exact h1 r (by omega)
      · rw [pg_up_at, pg_up_ne _ _ _ (by decide : (16 : Nat) ≠ 17), pg_up_at, pg_up_ne _ _ _ (by decide : (17 : Nat) ≠ 16), if_neg (by omega), if_neg (by omega)]
        exact h2 r (by omega)
theorem sg_pc {h : pg_H} (hb : ∀ r : Nat, r < 7 → (0 ≤ h 16 r ∧ h 16 r ≤ 10000) ∧ (0 ≤ h 17 r ∧ h 17 r ≤ 10000)) (hl : 0 ≤ h 10 7 ∧ h 10 7 ≤ 12) : pg_Sem true pm_G_placesToClasses [.inr (.inr 15)] h (fun r h' => r = none ∧ pg_fr [16, 17] h h' ∧ ∀ r : Nat, r < 7 → h' 16 r = h 16 r * r / (if 1 < h 10 7 then h 10 7 else 1) ∧ h' 17 r = h 17 r * 2 * r / (if 1 < h 10 7 then h 10 7 else 1)) := by
  refine pg_Sem_of pm_G_placesToClasses_f rfl ?_
  refine pg_ca 4 (L := []) (Mc := pm_J_max) (as := [.inl 1, .inl (h 10 7)]) (h0 := h) (pc := 11) (lv := [(0, .inr (.inr 15))]) (rest := []) rfl trivial (cj_max h 1 (h 10 7) ⟨by omega, by omega⟩ ⟨by omega, by omega⟩) ?_
  intro r_1 h_1 e_1; rw [e_1.1, e_1.2]
  refine pg_go 3 (L := []) (st' := (14, [(0, .inr (.inr 15)), (1, .inl (if 1 < (h 10 7) then (h 10 7) else 1)), (2, .inl 0)], [], h)) rfl trivial ?_
  exact sg_pc_l hb (by split <;> omega) 7 h _ (by omega) (by omega) (pg_fr_rf _ _) (fun r hr => by omega) (fun r _ => ⟨rfl, rfl⟩)
/-- WHAT IS LEFT, in parts of 24, as the class counts it -/
def sg_lf (h : pg_H) : Nat → Int
  | 0 => 48 - 24 * h 15 7
  | m + 1 => sg_lf h m - (h 16 (m + 2) * (24 * ((m : Int) + 1) / ((m : Int) + 2)) + h 17 (m + 2) * (12 * ((m : Int) + 1) / ((m : Int) + 2)))
def sg_od (h : pg_H) (s : Int) : Prop := ∃ k : Int, (mt_rd s ≤ k ∧ k < 2 * mt_rd s) ∧ h 11 k.toNat ≠ -1
theorem sg_cr_2 {h : pg_H} {s n : Int} (hB : cm_B h s n) (hR : sy_R h s) {f : Int} (hf : f = sg_lf h 5) (hfb : -100000000 ≤ f ∧ f ≤ 100000000) : ∀ (d : Nat) (o k : Int) (hd : k + (d : Int) = 2 * mt_rd s) (hk : mt_rd s ≤ k) (ho : o = pg_b (∃ j : Int, (mt_rd s ≤ j ∧ j < k) ∧ h 11 j.toNat ≠ -1)), pg_Good true pm_G_countTheRest (fun r h' => r = none ∧ h' = pg_up (pg_up h 15 8 (pg_if (sg_od h s) (Int.tdiv (sg_lf h 5) 24) 0)) 15 9 (pg_if (sg_od h s) 0 (Int.tdiv (sg_lf h 5) 48))) (69, [(0, .inr (.inr 15)), (1, .inl f), (2, .inl o), (3, .inl k)], [], h) := by
  intro d
  induction d with
  | zero =>
    intro o k hd hk ho
    obtain ⟨hs, ⟨hn1, hn2⟩, e1, e2, e3, e5⟩ := id hB
    have hr := mt_rd_or hs
    obtain ⟨ra, rb, rc, rl, rk⟩ := id hR
    have ho1 := pg_b_01 (∃ j : Int, (mt_rd s ≤ j ∧ j < k) ∧ h 11 j.toNat ≠ -1)
    refine pg_ca 3 (L := []) (Mc := pm_M_linears) (as := [.inr (.inr 4)]) (h0 := h) (pc := 77) (lv := [(0, .inr (.inr 15)), (1, .inl f), (2, .inl o), (3, .inl k)]) (rest := [.inl k]) rfl trivial (cm_linears hB) ?_
    intro r_1 h_1 e_1; rw [e_1.1, e_1.2]
    refine pg_br 0 (L := []) (P := pg_inR k ∧ pg_inR (2 * mt_rd s)) (c := (2 * mt_rd s) ≤ k) (st1 := (109, [(0, .inr (.inr 15)), (1, .inl f), (2, .inl o), (3, .inl k)], [], h)) (st2 := (80, [(0, .inr (.inr 15)), (1, .inl f), (2, .inl o), (3, .inl k)], [], h)) rfl trivial ⟨⟨by omega, by omega⟩, ⟨by omega, by omega⟩⟩ (fun c_77_1 => ?_) (fun c_77_1 => ?_)
    · refine pg_br 2 (L := []) (P := pg_inR o) (c := o = 0) (st1 := (121, [(0, .inr (.inr 15)), (1, .inl f), (2, .inl o), (3, .inl k)], [.inr (.inr 15)], h)) (st2 := (114, [(0, .inr (.inr 15)), (1, .inl f), (2, .inl o), (3, .inl k)], [.inr (.inr 15)], h)) rfl trivial ⟨by omega, by omega⟩ (fun c_111_2 => ?_) (fun c_111_2 => ?_)
      · refine pg_br 4 (L := []) (P := pg_inR o) (c := o = 0) (st1 := (134, [(0, .inr (.inr 15)), (1, .inl f), (2, .inl o), (3, .inl k)], [.inr (.inr 15)], pg_up h 15 8 0)) (st2 := (130, [(0, .inr (.inr 15)), (1, .inl f), (2, .inl o), (3, .inl k)], [.inr (.inr 15)], pg_up h 15 8 0)) rfl trivial ⟨by omega, by omega⟩ (fun c_127_3 => ?_) (fun c_127_3 => ?_)
        · refine pg_re 4 (L := [48 ≠ 0 ∧ pg_inR f ∧ pg_inR 48]) (r := none) (h0 := pg_up (pg_up h 15 8 0) 15 9 (Int.tdiv f 48)) rfl ⟨by omega, ⟨by omega, by omega⟩, ⟨by omega, by omega⟩⟩ ?_
          refine ⟨rfl, ?_⟩
          have hkk : k = 2 * mt_rd s := by omega
          rw [hkk] at ho
          have ho2 : o = pg_b (sg_od h s) := ho
          rcases pg_b_or (sg_od h s) with ⟨q1, q2⟩ | ⟨q1, q2⟩
          · first | (exfalso; omega) | (rw [pg_if_t q1, pg_if_t q1, hf])
          · first | (exfalso; omega) | (rw [pg_if_f q1, pg_if_f q1, hf])
        · refine pg_re 3 (L := []) (r := none) (h0 := pg_up (pg_up h 15 8 0) 15 9 0) rfl trivial ?_
          refine ⟨rfl, ?_⟩
          have hkk : k = 2 * mt_rd s := by omega
          rw [hkk] at ho
          have ho2 : o = pg_b (sg_od h s) := ho
          rcases pg_b_or (sg_od h s) with ⟨q1, q2⟩ | ⟨q1, q2⟩
          · first | (exfalso; omega) | (rw [pg_if_t q1, pg_if_t q1, hf])
          · first | (exfalso; omega) | (rw [pg_if_f q1, pg_if_f q1, hf])
      · refine pg_br 7 (L := [24 ≠ 0 ∧ pg_inR f ∧ pg_inR 24]) (P := pg_inR o) (c := o = 0) (st1 := (134, [(0, .inr (.inr 15)), (1, .inl f), (2, .inl o), (3, .inl k)], [.inr (.inr 15)], pg_up h 15 8 (Int.tdiv f 24))) (st2 := (130, [(0, .inr (.inr 15)), (1, .inl f), (2, .inl o), (3, .inl k)], [.inr (.inr 15)], pg_up h 15 8 (Int.tdiv f 24))) rfl ⟨by omega, ⟨by omega, by omega⟩, ⟨by omega, by omega⟩⟩ ⟨by omega, by omega⟩ (fun c_127_4 => ?_) (fun c_127_4 => ?_)
        · refine pg_re 4 (L := [48 ≠ 0 ∧ pg_inR f ∧ pg_inR 48]) (r := none) (h0 := pg_up (pg_up h 15 8 (Int.tdiv f 24)) 15 9 (Int.tdiv f 48)) rfl ⟨by omega, ⟨by omega, by omega⟩, ⟨by omega, by omega⟩⟩ ?_
          refine ⟨rfl, ?_⟩
          have hkk : k = 2 * mt_rd s := by omega
          rw [hkk] at ho
          have ho2 : o = pg_b (sg_od h s) := ho
          rcases pg_b_or (sg_od h s) with ⟨q1, q2⟩ | ⟨q1, q2⟩
          · first | (exfalso; omega) | (rw [pg_if_t q1, pg_if_t q1, hf])
          · first | (exfalso; omega) | (rw [pg_if_f q1, pg_if_f q1, hf])
        · refine pg_re 3 (L := []) (r := none) (h0 := pg_up (pg_up h 15 8 (Int.tdiv f 24)) 15 9 0) rfl trivial ?_
          refine ⟨rfl, ?_⟩
          have hkk : k = 2 * mt_rd s := by omega
          rw [hkk] at ho
          have ho2 : o = pg_b (sg_od h s) := ho
          rcases pg_b_or (sg_od h s) with ⟨q1, q2⟩ | ⟨q1, q2⟩
          · first | (exfalso; omega) | (rw [pg_if_t q1, pg_if_t q1, hf])
          · first | (exfalso; omega) | (rw [pg_if_f q1, pg_if_f q1, hf])
    · exact (by exfalso; omega)
  | succ d ih =>
    intro o k hd hk ho
    obtain ⟨hs, ⟨hn1, hn2⟩, e1, e2, e3, e5⟩ := id hB
    have hr := mt_rd_or hs
    obtain ⟨ra, rb, rc, rl, rk⟩ := id hR
    have r1 := rk k.toNat (by omega)
    have ho1 := pg_b_or (∃ j : Int, (mt_rd s ≤ j ∧ j < k) ∧ h 11 j.toNat ≠ -1)
    refine pg_ca 3 (L := []) (Mc := pm_M_linears) (as := [.inr (.inr 4)]) (h0 := h) (pc := 77) (lv := [(0, .inr (.inr 15)), (1, .inl f), (2, .inl o), (3, .inl k)]) (rest := [.inl k]) rfl trivial (cm_linears hB) ?_
    intro r_1 h_1 e_1; rw [e_1.1, e_1.2]
    refine pg_br 0 (L := []) (P := pg_inR k ∧ pg_inR (2 * mt_rd s)) (c := (2 * mt_rd s) ≤ k) (st1 := (109, [(0, .inr (.inr 15)), (1, .inl f), (2, .inl o), (3, .inl k)], [], h)) (st2 := (80, [(0, .inr (.inr 15)), (1, .inl f), (2, .inl o), (3, .inl k)], [], h)) rfl trivial ⟨⟨by omega, by omega⟩, ⟨by omega, by omega⟩⟩ (fun c_77_5 => ?_) (fun c_77_5 => ?_)
    · exact (by exfalso; omega)
    · refine pg_br 1 (L := []) (P := pg_inR o) (c := ¬ o = 0) (st1 := (97, [(0, .inr (.inr 15)), (1, .inl f), (2, .inl o), (3, .inl k)], [], h)) (st2 := (84, [(0, .inr (.inr 15)), (1, .inl f), (2, .inl o), (3, .inl k)], [], h)) rfl trivial ⟨by omega, by omega⟩ (fun c_81_6 => ?_) (fun c_81_6 => ?_)
      · refine pg_go 5 (L := []) (st' := (69, [(0, .inr (.inr 15)), (1, .inl f), (2, .inl 1), (3, .inl (k + 1))], [], h)) rfl trivial ?_
        refine ih _ _ (by omega) (by omega) ?_
        rcases ho1 with ⟨q1, q2⟩ | ⟨q1, q2⟩
        · obtain ⟨j, j1, j2⟩ := q1
          rw [pg_b_t ⟨j, ⟨j1.1, by omega⟩, j2⟩]
          try omega
        · by_cases hc : h 11 k.toNat = -1
          · have hno : ¬ ∃ j : Int, (mt_rd s ≤ j ∧ j < k + 1) ∧ h 11 j.toNat ≠ -1 := by
              rintro ⟨j, j1, j2⟩
              rcases (show j < k ∨ j = k by omega) with h3 | rfl
              · exact q1 ⟨j, ⟨j1.1, h3⟩, j2⟩
              · exact j2 hc
            rw [pg_b_f hno]
            try omega
          · rw [pg_b_t ⟨k, ⟨hk, by omega⟩, hc⟩]
            try omega
      · refine pg_br 6 (L := [0 ≤ k ∧ k < (12 : Int)]) (P := pg_inR (h 11 k.toNat) ∧ pg_inR (-1)) (c := (h 11 k.toNat) = (-1)) (st1 := (101, [(0, .inr (.inr 15)), (1, .inl f), (2, .inl o), (3, .inl k)], [], h)) (st2 := (97, [(0, .inr (.inr 15)), (1, .inl f), (2, .inl o), (3, .inl k)], [], h)) rfl ⟨by omega, by omega⟩ ⟨⟨by omega, by omega⟩, ⟨by decide, by decide⟩⟩ (fun c_94_7 => ?_) (fun c_94_7 => ?_)
        · refine pg_go 4 (L := []) (st' := (69, [(0, .inr (.inr 15)), (1, .inl f), (2, .inl 0), (3, .inl (k + 1))], [], h)) rfl trivial ?_
          refine ih _ _ (by omega) (by omega) ?_
          rcases ho1 with ⟨q1, q2⟩ | ⟨q1, q2⟩
          · obtain ⟨j, j1, j2⟩ := q1
            rw [pg_b_t ⟨j, ⟨j1.1, by omega⟩, j2⟩]
            try omega
          · by_cases hc : h 11 k.toNat = -1
            · have hno : ¬ ∃ j : Int, (mt_rd s ≤ j ∧ j < k + 1) ∧ h 11 j.toNat ≠ -1 := by
                rintro ⟨j, j1, j2⟩
                rcases (show j < k ∨ j = k by omega) with h3 | rfl
                · exact q1 ⟨j, ⟨j1.1, h3⟩, j2⟩
                · exact j2 hc
              rw [pg_b_f hno]
              try omega
            · rw [pg_b_t ⟨k, ⟨hk, by omega⟩, hc⟩]
              try omega
        · refine pg_go 5 (L := []) (st' := (69, [(0, .inr (.inr 15)), (1, .inl f), (2, .inl 1), (3, .inl (k + 1))], [], h)) rfl trivial ?_
          refine ih _ _ (by omega) (by omega) ?_
          rcases ho1 with ⟨q1, q2⟩ | ⟨q1, q2⟩
          · obtain ⟨j, j1, j2⟩ := q1
            rw [pg_b_t ⟨j, ⟨j1.1, by omega⟩, j2⟩]
            try omega
          · by_cases hc : h 11 k.toNat = -1
            · have hno : ¬ ∃ j : Int, (mt_rd s ≤ j ∧ j < k + 1) ∧ h 11 j.toNat ≠ -1 := by
                rintro ⟨j, j1, j2⟩
                rcases (show j < k ∨ j = k by omega) with h3 | rfl
                · exact q1 ⟨j, ⟨j1.1, h3⟩, j2⟩
                · exact j2 hc
              rw [pg_b_f hno]
              try omega
            · rw [pg_b_t ⟨k, ⟨hk, by omega⟩, hc⟩]
              try omega
theorem sg_q24 {j : Int} (hj : 2 ≤ j ∧ j ≤ 6) : 0 ≤ Int.tdiv (24 * (j - 1)) j ∧ Int.tdiv (24 * (j - 1)) j ≤ 24 := by
  have : j = 2 ∨ j = 3 ∨ j = 4 ∨ j = 5 ∨ j = 6 := by omega
  rcases this with rfl | rfl | rfl | rfl | rfl <;> decide
theorem sg_q12 {j : Int} (hj : 2 ≤ j ∧ j ≤ 6) : 0 ≤ Int.tdiv (12 * (j - 1)) j ∧ Int.tdiv (12 * (j - 1)) j ≤ 12 := by
  have : j = 2 ∨ j = 3 ∨ j = 4 ∨ j = 5 ∨ j = 6 := by omega
  rcases this with rfl | rfl | rfl | rfl | rfl <;> decide
theorem sg_cr_1 {h : pg_H} {s n : Int} (hB : cm_B h s n) (hR : sy_R h s) (hb : ∀ r : Nat, r < 7 → (0 ≤ h 16 r ∧ h 16 r ≤ 200000) ∧ (0 ≤ h 17 r ∧ h 17 r ≤ 200000)) (he : 0 ≤ h 15 7 ∧ h 15 7 ≤ 10000) : ∀ (d : Nat) (f j : Int) (hd : j + (d : Int) = 7) (hj : 2 ≤ j) (hf : f = sg_lf h (j - 2).toNat) (hfb : -300000 - (j - 2) * 10000000 ≤ f ∧ f ≤ 48), pg_Good true pm_G_countTheRest (fun r h' => r = none ∧ h' = pg_up (pg_up h 15 8 (pg_if (sg_od h s) (Int.tdiv (sg_lf h 5) 24) 0)) 15 9 (pg_if (sg_od h s) 0 (Int.tdiv (sg_lf h 5) 48))) (13, [(0, .inr (.inr 15)), (1, .inl f), (2, .inl j)], [], h) := by
  intro d
  induction d with
  | zero =>
    intro f j hd hj hf hfb
    obtain ⟨hs, ⟨hn1, hn2⟩, e1, e2, e3, e5⟩ := id hB
    have hr := mt_rd_or hs
    obtain ⟨ra, rb, rc, rl, rk⟩ := id hR
    refine pg_br 2 (L := []) (P := pg_inR j ∧ pg_inR 6) (c := 6 < j) (st1 := (59, [(0, .inr (.inr 15)), (1, .inl f), (2, .inl j)], [], h)) (st2 := (19, [(0, .inr (.inr 15)), (1, .inl f), (2, .inl j)], [], h)) rfl trivial ⟨⟨by omega, by omega⟩, ⟨by decide, by decide⟩⟩ (fun c_16_1 => ?_) (fun c_16_1 => ?_)
    · refine pg_go 6 (L := []) (st' := (69, [(0, .inr (.inr 15)), (1, .inl f), (2, .inl 0), (3, .inl (h 4 3))], [], h)) rfl trivial ?_
      refine sg_cr_2 hB hR (by rw [hf, show (j - 2).toNat = 5 by omega]) ⟨by omega, by omega⟩ (mt_rd s).toNat _ _ (by omega) (by omega) ?_
      rw [pg_b_f]
      rintro ⟨a, a1, -⟩
      omega
    · exact (by exfalso; omega)
  | succ d ih =>
    intro f j hd hj hf hfb
    obtain ⟨hs, ⟨hn1, hn2⟩, e1, e2, e3, e5⟩ := id hB
    have hr := mt_rd_or hs
    obtain ⟨ra, rb, rc, rl, rk⟩ := id hR
    have b1 := hb j.toNat (by omega)
    have hq1 : 0 ≤ Int.tdiv (24 * (j - 1)) j ∧ Int.tdiv (24 * (j - 1)) j ≤ 24 := sg_q24 ⟨hj, by omega⟩
    have hq2 : 0 ≤ Int.tdiv (12 * (j - 1)) j ∧ Int.tdiv (12 * (j - 1)) j ≤ 12 := sg_q12 ⟨hj, by omega⟩
    have n1 : 0 ≤ h 16 j.toNat * Int.tdiv (24 * (j - 1)) j ∧ h 16 j.toNat * Int.tdiv (24 * (j - 1)) j ≤ 200000 * 24 := ⟨Int.mul_nonneg b1.1.1 hq1.1, Int.mul_le_mul b1.1.2 hq1.2 hq1.1 (by decide)⟩
    have n2 : 0 ≤ h 17 j.toNat * Int.tdiv (12 * (j - 1)) j ∧ h 17 j.toNat * Int.tdiv (12 * (j - 1)) j ≤ 200000 * 12 := ⟨Int.mul_nonneg b1.2.1 hq2.1, Int.mul_le_mul b1.2.2 hq2.2 hq2.1 (by decide)⟩
    refine pg_br 2 (L := []) (P := pg_inR j ∧ pg_inR 6) (c := 6 < j) (st1 := (59, [(0, .inr (.inr 15)), (1, .inl f), (2, .inl j)], [], h)) (st2 := (19, [(0, .inr (.inr 15)), (1, .inl f), (2, .inl j)], [], h)) rfl trivial ⟨⟨by omega, by omega⟩, ⟨by decide, by decide⟩⟩ (fun c_16_2 => ?_) (fun c_16_2 => ?_)
    · exact (by exfalso; omega)
    · refine pg_go 30 (L := [0 ≤ j ∧ j < (7 : Int), j ≠ 0 ∧ pg_inR (24 * (j - 1)) ∧ pg_inR j, 0 ≤ j ∧ j < (7 : Int), j ≠ 0 ∧ pg_inR (12 * (j - 1)) ∧ pg_inR j]) (st' := (13, [(0, .inr (.inr 15)), (1, .inl (f - (((h 16 j.toNat) * (Int.tdiv (24 * (j - 1)) j)) + ((h 17 j.toNat) * (Int.tdiv (12 * (j - 1)) j))))), (2, .inl (j + 1))], [], h)) rfl ⟨⟨by omega, by omega⟩, ⟨by omega, ⟨by omega, by omega⟩, ⟨by omega, by omega⟩⟩, ⟨by omega, by omega⟩, ⟨by omega, ⟨by omega, by omega⟩, ⟨by omega, by omega⟩⟩⟩ ?_
      refine ih _ _ (by omega) (by omega) ?_ ⟨by omega, by omega⟩
      rw [hf, show (j + 1 - 2).toNat = (j - 2).toNat + 1 by omega]
      simp only [sg_lf]
      rw [show (((j - 2).toNat : Nat) : Int) = j - 2 by omega, show (j - 2).toNat + 2 = j.toNat by omega, show j - 2 + 1 = j - 1 by omega, show j - 2 + 2 = j by omega, pg_tdiv_nn (by omega), pg_tdiv_nn (by omega)]
theorem sg_cr {h : pg_H} {s n : Int} (hB : cm_B h s n) (hR : sy_R h s) (hb : ∀ r : Nat, r < 7 → (0 ≤ h 16 r ∧ h 16 r ≤ 200000) ∧ (0 ≤ h 17 r ∧ h 17 r ≤ 200000)) (he : 0 ≤ h 15 7 ∧ h 15 7 ≤ 10000) : pg_Sem true pm_G_countTheRest [.inr (.inr 15)] h (fun r h' => r = none ∧ h' = pg_up (pg_up h 15 8 (pg_if (sg_od h s) (Int.tdiv (sg_lf h 5) 24) 0)) 15 9 (pg_if (sg_od h s) 0 (Int.tdiv (sg_lf h 5) 48))) := by
  obtain ⟨hs, ⟨hn1, hn2⟩, e1, e2, e3, e5⟩ := id hB
  have hr := mt_rd_or hs
  obtain ⟨ra, rb, rc, rl, rk⟩ := id hR
  refine pg_Sem_of pm_G_countTheRest_f rfl ?_
  refine pg_go 9 (L := []) (st' := (13, [(0, .inr (.inr 15)), (1, .inl (48 - (24 * (h 15 7)))), (2, .inl 2)], [], h)) rfl trivial ?_
  exact sg_cr_1 hB hR hb he 5 _ _ (by omega) (by omega) rfl ⟨by omega, by omega⟩
def sg_n0 (h : pg_H) : Int := if 0 < h 16 6 then 16 else if 0 < h 16 4 then 10 else if 0 < h 16 3 then 13 else if 0 < h 16 2 then 2 else 1
def sg_nm (h : pg_H) : Int := if h 15 7 = 0 then (if h 15 8 = 0 then sg_n0 h else if h 15 8 = 2 then 4 else 8) else if 0 < h 17 6 then 17 else if 0 < h 17 4 then 11 else if 0 < h 17 3 then (if 0 < h 16 3 then 15 else 14) else if 0 < h 16 4 then 12 else if 0 < h 17 2 then (if 0 < h 16 2 then 9 else 6) else if 0 < h 16 2 then 7 else if h 15 7 = 2 then 3 else 5
theorem sg_n0s {h : pg_H} (hb : ∀ r : Nat, r < 7 → pg_inR (h 16 r) ∧ pg_inR (h 17 r)) : pg_Sem true pm_G_nameWithoutMirrors [.inr (.inr 15)] h (fun r h' => r = some (.inl (sg_n0 h)) ∧ h' = h) := by
  have b2 := hb 2 (by decide)
  have b3 := hb 3 (by decide)
  have b4 := hb 4 (by decide)
  have b6 := hb 6 (by decide)
  obtain ⟨⟨a21, a22⟩, ⟨c21, c22⟩⟩ := b2
  obtain ⟨⟨a31, a32⟩, ⟨c31, c32⟩⟩ := b3
  obtain ⟨⟨a41, a42⟩, ⟨c41, c42⟩⟩ := b4
  obtain ⟨⟨a61, a62⟩, ⟨c61, c62⟩⟩ := b6
  refine pg_Sem_of pm_G_nameWithoutMirrors_f rfl ?_
  refine pg_br 4 (L := [0 ≤ 6 ∧ 6 < (7 : Int)]) (P := pg_inR (h 16 6)) (c := (h 16 6) ≤ 0) (st1 := (13, [(0, .inr (.inr 15))], [], h)) (st2 := (10, [(0, .inr (.inr 15))], [], h)) rfl ⟨by omega, by omega⟩ ⟨by omega, by omega⟩ (fun c_7_1 => ?_) (fun c_7_1 => ?_)
  · refine pg_br 4 (L := [0 ≤ 4 ∧ 4 < (7 : Int)]) (P := pg_inR (h 16 4)) (c := (h 16 4) ≤ 0) (st1 := (25, [(0, .inr (.inr 15))], [], h)) (st2 := (22, [(0, .inr (.inr 15))], [], h)) rfl ⟨by omega, by omega⟩ ⟨by omega, by omega⟩ (fun c_19_2 => ?_) (fun c_19_2 => ?_)
    · refine pg_br 4 (L := [0 ≤ 3 ∧ 3 < (7 : Int)]) (P := pg_inR (h 16 3)) (c := (h 16 3) ≤ 0) (st1 := (37, [(0, .inr (.inr 15))], [], h)) (st2 := (34, [(0, .inr (.inr 15))], [], h)) rfl ⟨by omega, by omega⟩ ⟨by omega, by omega⟩ (fun c_31_3 => ?_) (fun c_31_3 => ?_)
      · refine pg_br 4 (L := [0 ≤ 2 ∧ 2 < (7 : Int)]) (P := pg_inR (h 16 2)) (c := (h 16 2) ≤ 0) (st1 := (50, [(0, .inr (.inr 15))], [], h)) (st2 := (46, [(0, .inr (.inr 15))], [], h)) rfl ⟨by omega, by omega⟩ ⟨by omega, by omega⟩ (fun c_43_4 => ?_) (fun c_43_4 => ?_)
        · refine pg_re 1 (L := []) (r := some (.inl 1)) (h0 := h) rfl trivial ?_
          refine ⟨?_, rfl⟩
          unfold sg_n0
          congr 2
          repeat (split <;> try omega)
        · refine pg_re 2 (L := []) (r := some (.inl 2)) (h0 := h) rfl trivial ?_
          refine ⟨?_, rfl⟩
          unfold sg_n0
          congr 2
          repeat (split <;> try omega)
      · refine pg_re 1 (L := []) (r := some (.inl 13)) (h0 := h) rfl trivial ?_
        refine ⟨?_, rfl⟩
        unfold sg_n0
        congr 2
        repeat (split <;> try omega)
    · refine pg_re 1 (L := []) (r := some (.inl 10)) (h0 := h) rfl trivial ?_
      refine ⟨?_, rfl⟩
      unfold sg_n0
      congr 2
      repeat (split <;> try omega)
  · refine pg_re 1 (L := []) (r := some (.inl 16)) (h0 := h) rfl trivial ?_
    refine ⟨?_, rfl⟩
    unfold sg_n0
    congr 2
    repeat (split <;> try omega)
set_option maxHeartbeats 4000000 in
theorem sg_nms {h : pg_H} (hb : ∀ r : Nat, r < 7 → pg_inR (h 16 r) ∧ pg_inR (h 17 r)) (he : pg_inR (h 15 7) ∧ pg_inR (h 15 8)) : pg_Sem true pm_G_name [.inr (.inr 15)] h (fun r h' => r = some (.inl (sg_nm h)) ∧ h' = h) := by
  have b2 := hb 2 (by decide)
  have b3 := hb 3 (by decide)
  have b4 := hb 4 (by decide)
  have b6 := hb 6 (by decide)
  obtain ⟨⟨a21, a22⟩, ⟨c21, c22⟩⟩ := b2
  obtain ⟨⟨a31, a32⟩, ⟨c31, c32⟩⟩ := b3
  obtain ⟨⟨a41, a42⟩, ⟨c41, c42⟩⟩ := b4
  obtain ⟨⟨a61, a62⟩, ⟨c61, c62⟩⟩ := b6
  obtain ⟨⟨e71, e72⟩, ⟨e81, e82⟩⟩ := he
  refine pg_Sem_of pm_G_name_f rfl ?_
  refine pg_br 2 (L := []) (P := pg_inR (h 15 7)) (c := ¬ (h 15 7) = 0) (st1 := (36, [(0, .inr (.inr 15))], [], h)) (st2 := (7, [(0, .inr (.inr 15))], [], h)) rfl trivial ⟨by omega, by omega⟩ (fun c_4_1 => ?_) (fun c_4_1 => ?_)
  · refine pg_br 4 (L := [0 ≤ 6 ∧ 6 < (7 : Int)]) (P := pg_inR (h 17 6)) (c := (h 17 6) ≤ 0) (st1 := (49, [(0, .inr (.inr 15))], [], h)) (st2 := (46, [(0, .inr (.inr 15))], [], h)) rfl ⟨by omega, by omega⟩ ⟨by omega, by omega⟩ (fun c_43_2 => ?_) (fun c_43_2 => ?_)
    · refine pg_br 4 (L := [0 ≤ 4 ∧ 4 < (7 : Int)]) (P := pg_inR (h 17 4)) (c := (h 17 4) ≤ 0) (st1 := (61, [(0, .inr (.inr 15))], [], h)) (st2 := (58, [(0, .inr (.inr 15))], [], h)) rfl ⟨by omega, by omega⟩ ⟨by omega, by omega⟩ (fun c_55_3 => ?_) (fun c_55_3 => ?_)
      · refine pg_br 4 (L := [0 ≤ 3 ∧ 3 < (7 : Int)]) (P := pg_inR (h 17 3)) (c := (h 17 3) ≤ 0) (st1 := (87, [(0, .inr (.inr 15))], [], h)) (st2 := (70, [(0, .inr (.inr 15))], [], h)) rfl ⟨by omega, by omega⟩ ⟨by omega, by omega⟩ (fun c_67_4 => ?_) (fun c_67_4 => ?_)
        · refine pg_br 4 (L := [0 ≤ 4 ∧ 4 < (7 : Int)]) (P := pg_inR (h 16 4)) (c := (h 16 4) ≤ 0) (st1 := (99, [(0, .inr (.inr 15))], [], h)) (st2 := (96, [(0, .inr (.inr 15))], [], h)) rfl ⟨by omega, by omega⟩ ⟨by omega, by omega⟩ (fun c_93_5 => ?_) (fun c_93_5 => ?_)
          · refine pg_br 4 (L := [0 ≤ 2 ∧ 2 < (7 : Int)]) (P := pg_inR (h 17 2)) (c := (h 17 2) ≤ 0) (st1 := (125, [(0, .inr (.inr 15))], [], h)) (st2 := (108, [(0, .inr (.inr 15))], [], h)) rfl ⟨by omega, by omega⟩ ⟨by omega, by omega⟩ (fun c_105_6 => ?_) (fun c_105_6 => ?_)
            · refine pg_br 4 (L := [0 ≤ 2 ∧ 2 < (7 : Int)]) (P := pg_inR (h 16 2)) (c := (h 16 2) ≤ 0) (st1 := (137, [(0, .inr (.inr 15))], [], h)) (st2 := (134, [(0, .inr (.inr 15))], [], h)) rfl ⟨by omega, by omega⟩ ⟨by omega, by omega⟩ (fun c_131_7 => ?_) (fun c_131_7 => ?_)
              · refine pg_br 3 (L := []) (P := pg_inR (h 15 7) ∧ pg_inR 2) (c := ¬ (h 15 7) = 2) (st1 := (149, [(0, .inr (.inr 15))], [], h)) (st2 := (145, [(0, .inr (.inr 15))], [], h)) rfl trivial ⟨⟨by omega, by omega⟩, ⟨by decide, by decide⟩⟩ (fun c_142_8 => ?_) (fun c_142_8 => ?_)
                · refine pg_re 1 (L := []) (r := some (.inl 5)) (h0 := h) rfl trivial ?_
                  refine ⟨?_, rfl⟩
                  unfold sg_nm
                  congr 2
                  repeat (split <;> try omega)
                · refine pg_re 2 (L := []) (r := some (.inl 3)) (h0 := h) rfl trivial ?_
                  refine ⟨?_, rfl⟩
                  unfold sg_nm
                  congr 2
                  repeat (split <;> try omega)
              · refine pg_re 1 (L := []) (r := some (.inl 7)) (h0 := h) rfl trivial ?_
                refine ⟨?_, rfl⟩
                unfold sg_nm
                congr 2
                repeat (split <;> try omega)
            · refine pg_br 4 (L := [0 ≤ 2 ∧ 2 < (7 : Int)]) (P := pg_inR (h 16 2)) (c := (h 16 2) ≤ 0) (st1 := (122, [(0, .inr (.inr 15))], [], h)) (st2 := (117, [(0, .inr (.inr 15))], [], h)) rfl ⟨by omega, by omega⟩ ⟨by omega, by omega⟩ (fun c_114_9 => ?_) (fun c_114_9 => ?_)
              · refine pg_re 1 (L := []) (r := some (.inl 6)) (h0 := h) rfl trivial ?_
                refine ⟨?_, rfl⟩
                unfold sg_nm
                congr 2
                repeat (split <;> try omega)
              · refine pg_re 2 (L := []) (r := some (.inl 9)) (h0 := h) rfl trivial ?_
                refine ⟨?_, rfl⟩
                unfold sg_nm
                congr 2
                repeat (split <;> try omega)
          · refine pg_re 1 (L := []) (r := some (.inl 12)) (h0 := h) rfl trivial ?_
            refine ⟨?_, rfl⟩
            unfold sg_nm
            congr 2
            repeat (split <;> try omega)
        · refine pg_br 4 (L := [0 ≤ 3 ∧ 3 < (7 : Int)]) (P := pg_inR (h 16 3)) (c := (h 16 3) ≤ 0) (st1 := (84, [(0, .inr (.inr 15))], [], h)) (st2 := (79, [(0, .inr (.inr 15))], [], h)) rfl ⟨by omega, by omega⟩ ⟨by omega, by omega⟩ (fun c_76_10 => ?_) (fun c_76_10 => ?_)
          · refine pg_re 1 (L := []) (r := some (.inl 14)) (h0 := h) rfl trivial ?_
            refine ⟨?_, rfl⟩
            unfold sg_nm
            congr 2
            repeat (split <;> try omega)
          · refine pg_re 2 (L := []) (r := some (.inl 15)) (h0 := h) rfl trivial ?_
            refine ⟨?_, rfl⟩
            unfold sg_nm
            congr 2
            repeat (split <;> try omega)
      · refine pg_re 1 (L := []) (r := some (.inl 11)) (h0 := h) rfl trivial ?_
        refine ⟨?_, rfl⟩
        unfold sg_nm
        congr 2
        repeat (split <;> try omega)
    · refine pg_re 1 (L := []) (r := some (.inl 17)) (h0 := h) rfl trivial ?_
      refine ⟨?_, rfl⟩
      unfold sg_nm
      congr 2
      repeat (split <;> try omega)
  · refine pg_br 2 (L := []) (P := pg_inR (h 15 8)) (c := ¬ (h 15 8) = 0) (st1 := (21, [(0, .inr (.inr 15))], [], h)) (st2 := (14, [(0, .inr (.inr 15))], [], h)) rfl trivial ⟨by omega, by omega⟩ (fun c_11_11 => ?_) (fun c_11_11 => ?_)
    · refine pg_br 3 (L := []) (P := pg_inR (h 15 8) ∧ pg_inR 2) (c := ¬ (h 15 8) = 2) (st1 := (33, [(0, .inr (.inr 15))], [], h)) (st2 := (29, [(0, .inr (.inr 15))], [], h)) rfl trivial ⟨⟨by omega, by omega⟩, ⟨by decide, by decide⟩⟩ (fun c_26_12 => ?_) (fun c_26_12 => ?_)
      · refine pg_re 1 (L := []) (r := some (.inl 8)) (h0 := h) rfl trivial ?_
        refine ⟨?_, rfl⟩
        unfold sg_nm
        congr 2
        repeat (split <;> try omega)
      · refine pg_re 2 (L := []) (r := some (.inl 4)) (h0 := h) rfl trivial ?_
        refine ⟨?_, rfl⟩
        unfold sg_nm
        congr 2
        repeat (split <;> try omega)
    · refine pg_ca 1 (L := []) (Mc := pm_G_nameWithoutMirrors) (as := [.inr (.inr 15)]) (h0 := h) (pc := 18) (lv := [(0, .inr (.inr 15))]) (rest := []) rfl trivial (sg_n0s hb) ?_
      intro r_1 h_1 e_1; rw [e_1.1, e_1.2]
      refine pg_re 1 (L := []) (r := some (.inl (sg_n0 h))) (h0 := h) rfl trivial ?_
      refine ⟨?_, rfl⟩
      unfold sg_nm
      congr 2
      repeat (split <;> try omega)
