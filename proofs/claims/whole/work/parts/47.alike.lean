/-! Generators: paintAlike -/
noncomputable def gp_R (S : Int → List Int) (m : Nat) (c0 : Nat → Int) : Nat → List Int × (Nat → Int) × Int
  | 0 => ([], c0, 0)
  | j + 1 => @ite _ ((j : Int) ∈ (gp_R S m c0 j).1) (Classical.propDecidable _) (gp_R S m c0 j)
      (bf S (5185 - ((gp_R S m c0 j).1 ++ [(j : Int)]).length) (((gp_R S m c0 j).1 ++ [(j : Int)]).length - 1) ((gp_R S m c0 j).1 ++ [(j : Int)]),
       (fun q : Nat => pg_if ((q : Int) ∈ bf S (5185 - ((gp_R S m c0 j).1 ++ [(j : Int)]).length) (((gp_R S m c0 j).1 ++ [(j : Int)]).length - 1) ((gp_R S m c0 j).1 ++ [(j : Int)]) ∧ (q : Int) ∉ (gp_R S m c0 j).1 ++ [(j : Int)]) ((gp_R S m c0 j).2.1 j) ((gp_R S m c0 j).2.1 q)),
       (gp_R S m c0 j).2.2 + pg_cn (fun q : Nat => ((q : Int) ∈ bf S (5185 - ((gp_R S m c0 j).1 ++ [(j : Int)]).length) (((gp_R S m c0 j).1 ++ [(j : Int)]).length - 1) ((gp_R S m c0 j).1 ++ [(j : Int)]) ∧ (q : Int) ∉ (gp_R S m c0 j).1 ++ [(j : Int)]) ∧ (gp_R S m c0 j).2.1 q ≠ (gp_R S m c0 j).2.1 j) m)
theorem gp_S_fr {h g : pg_H} (h20 : g 20 = h 20) (h21 : g 21 = h 21) (s n : Int) : gp_S g s n = gp_S h s n := by
  funext x
  unfold gp_S
  rw [h20, h21]
theorem gn_I_fr {h g : pg_H} {s n : Int} (h20 : g 20 = h 20) (h21 : g 21 = h 21) (hG : gn_I h s n) : gn_I g s n := by
  unfold gn_I at *
  rw [h20, h21]
  exact hG
theorem gp_R_bd (S : Int → List Int) (m : Nat) (c0 : Nat → Int) (j : Nat) : 0 ≤ (gp_R S m c0 j).2.2 ∧ (gp_R S m c0 j).2.2 ≤ j * m := by
  induction j with
  | zero => exact ⟨Int.le_refl _, by simp [gp_R]⟩
  | succ j ih =>
    simp only [gp_R]
    rw [show (((j + 1 : Nat) : Int)) * m = j * m + m by rw [show ((j + 1 : Nat) : Int) = j + 1 by omega, Int.add_mul, Int.one_mul]]
    split
    · omega
    · have := pg_cn_bd (fun q => ((q : Int) ∈ bf S (5185 - ((gp_R S m c0 j).1 ++ [(j : Int)]).length) (((gp_R S m c0 j).1 ++ [(j : Int)]).length - 1) ((gp_R S m c0 j).1 ++ [(j : Int)]) ∧ (q : Int) ∉ (gp_R S m c0 j).1 ++ [(j : Int)]) ∧ (gp_R S m c0 j).2.1 q ≠ (gp_R S m c0 j).2.1 j) m
      show 0 ≤ (gp_R S m c0 j).2.2 + _ ∧ (gp_R S m c0 j).2.2 + _ ≤ _
      omega
theorem gp_R_old {S : Int → List Int} {m : Nat} {c0 : Nat → Int} {j : Nat} (h : (j : Int) ∈ (gp_R S m c0 j).1) : gp_R S m c0 (j + 1) = gp_R S m c0 j := if_pos h
theorem gp_R_new {S : Int → List Int} {m : Nat} {c0 : Nat → Int} {j : Nat} (h : (j : Int) ∉ (gp_R S m c0 j).1) : gp_R S m c0 (j + 1) = (bf S (5185 - ((gp_R S m c0 j).1 ++ [(j : Int)]).length) (((gp_R S m c0 j).1 ++ [(j : Int)]).length - 1) ((gp_R S m c0 j).1 ++ [(j : Int)]),
       (fun q : Nat => pg_if ((q : Int) ∈ bf S (5185 - ((gp_R S m c0 j).1 ++ [(j : Int)]).length) (((gp_R S m c0 j).1 ++ [(j : Int)]).length - 1) ((gp_R S m c0 j).1 ++ [(j : Int)]) ∧ (q : Int) ∉ (gp_R S m c0 j).1 ++ [(j : Int)]) ((gp_R S m c0 j).2.1 j) ((gp_R S m c0 j).2.1 q)),
       (gp_R S m c0 j).2.2 + pg_cn (fun q : Nat => ((q : Int) ∈ bf S (5185 - ((gp_R S m c0 j).1 ++ [(j : Int)]).length) (((gp_R S m c0 j).1 ++ [(j : Int)]).length - 1) ((gp_R S m c0 j).1 ++ [(j : Int)]) ∧ (q : Int) ∉ (gp_R S m c0 j).1 ++ [(j : Int)]) ∧ (gp_R S m c0 j).2.1 q ≠ (gp_R S m c0 j).2.1 j) m) := if_neg h
set_option maxHeartbeats 4000000 in
theorem gp_al_l {h : pg_H} {s n : Int} (hB : cm_B h s n) (hG : gn_I h s n) : ∀ (d : Nat) (g : pg_H) (f j : Int) (hd : j + (d : Int) = n * n) (hj : 0 ≤ j) (hf : pg_fr [1, 2, 3, 7, 8] h g) (hP : gp_B g n (gp_R (gp_S h s n) (n * n).toNat (h 7) j.toNat).1) (h7 : ∀ q : Nat, (q : Int) < n * n → g 7 q = (gp_R (gp_S h s n) (n * n).toNat (h 7) j.toNat).2.1 q) (hfv : f = (gp_R (gp_S h s n) (n * n).toNat (h 7) j.toNat).2.2) (h0 : f = 0 → g 7 = h 7 ∧ g 8 = h 8), pg_Good true pm_N_paintAlike (fun r h' => ∃ L : List Int, r = some (.inl (gp_R (gp_S h s n) (n * n).toNat (h 7) (n * n).toNat).2.2) ∧ pg_fr [1, 2, 3, 7, 8] h h' ∧ gp_B h' n L ∧ (∀ q : Nat, (q : Int) < n * n → h' 7 q = (gp_R (gp_S h s n) (n * n).toNat (h 7) (n * n).toNat).2.1 q) ∧ ((gp_R (gp_S h s n) (n * n).toNat (h 7) (n * n).toNat).2.2 = 0 → h' 7 = h 7 ∧ h' 8 = h 8)) (11, [(0, .inr (.inr 20)), (1, .inl f), (2, .inl j)], [], g) := by
  intro d
  induction d with
  | zero =>
    intro g f j hd hj hf hP h7 hfv h0
    obtain ⟨hs, ⟨hn1, hn2⟩, e1, e2, e3, e5⟩ := id hB
    have hr := mt_rd_or hs
    have hnn := mt_nn hn1 hn2
    have hBg := cm_B_fr hB hf (by decide) (by decide)
    obtain ⟨hCg, hSg, hL, hLb⟩ := id hP
    have hrb := gp_R_bd (gp_S h s n) (n * n).toNat (h 7) j.toNat
    refine pg_ca 3 (L := []) (Mc := pm_M_points) (as := [.inr (.inr 4)]) (h0 := g) (pc := 19) (lv := [(0, .inr (.inr 20)), (1, .inl f), (2, .inl j)]) (rest := [.inl j]) rfl trivial (cm_points hBg) ?_
    intro r_1 h_1 e_1; rw [e_1.1, e_1.2]
    refine pg_br 0 (L := []) (P := pg_inR j ∧ pg_inR (n * n)) (c := (n * n) ≤ j) (st1 := (55, [(0, .inr (.inr 20)), (1, .inl f), (2, .inl j)], [], g)) (st2 := (22, [(0, .inr (.inr 20)), (1, .inl f), (2, .inl j)], [], g)) rfl trivial ⟨⟨by omega, by omega⟩, ⟨by omega, by omega⟩⟩ (fun c_19_1 => ?_) (fun c_19_1 => ?_)
    · refine pg_re 1 (L := []) (r := some (.inl f)) (h0 := g) rfl trivial ?_
      refine ⟨(gp_R (gp_S h s n) (n * n).toNat (h 7) j.toNat).1, ?_, hf, hP, ?_, fun hz => h0 (by rw [hfv, show j = n * n by omega]; exact hz)⟩
      · rw [hfv, show n * n = j by omega]
      · rw [show n * n = j by omega] at h7 ⊢; exact h7
    · exact (by exfalso; omega)
  | succ d ih =>
    intro g f j hd hj hf hP h7 hfv h0
    obtain ⟨hs, ⟨hn1, hn2⟩, e1, e2, e3, e5⟩ := id hB
    have hr := mt_rd_or hs
    have hnn := mt_nn hn1 hn2
    have hBg := cm_B_fr hB hf (by decide) (by decide)
    obtain ⟨hCg, hSg, hL, hLb⟩ := id hP
    have hrb := gp_R_bd (gp_S h s n) (n * n).toNat (h 7) j.toNat
    refine pg_ca 3 (L := []) (Mc := pm_M_points) (as := [.inr (.inr 4)]) (h0 := g) (pc := 19) (lv := [(0, .inr (.inr 20)), (1, .inl f), (2, .inl j)]) (rest := [.inl j]) rfl trivial (cm_points hBg) ?_
    intro r_1 h_1 e_1; rw [e_1.1, e_1.2]
    refine pg_br 0 (L := []) (P := pg_inR j ∧ pg_inR (n * n)) (c := (n * n) ≤ j) (st1 := (55, [(0, .inr (.inr 20)), (1, .inl f), (2, .inl j)], [], g)) (st2 := (22, [(0, .inr (.inr 20)), (1, .inl f), (2, .inl j)], [], g)) rfl trivial ⟨⟨by omega, by omega⟩, ⟨by omega, by omega⟩⟩ (fun c_19_2 => ?_) (fun c_19_2 => ?_)
    · exact (by exfalso; omega)
    · refine pg_ca 3 (L := []) (Mc := pm_R_add) (as := [.inr (.inr 1), .inl j]) (h0 := g) (pc := 30) (lv := [(0, .inr (.inr 20)), (1, .inl f), (2, .inl j)]) (rest := []) rfl trivial (rl_add hL j (by omega)) ?_
      intro r_1 g2 e_1; obtain ⟨er_, eL_, ef_⟩ := e_1; rw [er_]; have hf2 := pg_fr_tr hf ef_ (by decide); have hbo := pg_b_or (j ∉ (gp_R (gp_S h s n) (n * n).toNat (h 7) j.toNat).1)
      have ek : (j + 1).toNat = j.toNat + 1 := by omega
      have ek2 : ((j.toNat : Nat) : Int) = j := by omega
      have e72 : g2 7 = g 7 := ef_ 7 (by decide)
      refine pg_br 0 (L := []) (P := pg_inR (pg_b (j ∉ (gp_R (gp_S h s n) (n * n).toNat (h 7) j.toNat).1))) (c := (pg_b (j ∉ (gp_R (gp_S h s n) (n * n).toNat (h 7) j.toNat).1)) = 0) (st1 := (49, [(0, .inr (.inr 20)), (1, .inl f), (2, .inl j)], [], g2)) (st2 := (33, [(0, .inr (.inr 20)), (1, .inl f), (2, .inl j)], [], g2)) rfl trivial ⟨by omega, by omega⟩ (fun c_30_3 => ?_) (fun c_30_3 => ?_)
      · refine pg_go 2 (L := []) (st' := (11, [(0, .inr (.inr 20)), (1, .inl f), (2, .inl (j + 1))], [], g2)) rfl trivial ?_
        have hin : ¬ (j ∉ (gp_R (gp_S h s n) (n * n).toNat (h 7) j.toNat).1) := by
          rcases hbo with hq | hq
          · omega
          · exact hq.1
        rw [bf_add_old hin] at eL_
        have hold := gp_R_old (S := gp_S h s n) (m := (n * n).toNat) (c0 := h 7) (j := j.toNat) (by rw [ek2]; exact Classical.not_not.mp hin)
        refine ih g2 _ _ (by omega) (by omega) hf2 ?_ ?_ ?_ (fun hz => by rw [ef_ 7 (by decide), ef_ 8 (by decide)]; exact h0 hz)
        · rw [ek, hold]; exact ⟨cp_C_fr hCg ef_ (by decide), cp_S_fr hSg ef_ (by decide) (by decide), eL_, hLb⟩
        · intro q hq; rw [ek, hold, e72]; exact h7 q hq
        · rw [ek, hold]; exact hfv
      · have hin : j ∉ (gp_R (gp_S h s n) (n * n).toNat (h 7) j.toNat).1 := by
          rcases hbo with hq | hq
          · exact hq.1
          · omega
        rw [bf_add_new hin] at eL_
        have hP2 : gp_B g2 n ((gp_R (gp_S h s n) (n * n).toNat (h 7) j.toNat).1 ++ [j]) := ⟨cp_C_fr hCg ef_ (by decide), cp_S_fr hSg ef_ (by decide) (by decide), eL_, fun y hy => by
          rcases List.mem_append.mp hy with hy | hy
          · exact hLb y hy
          · rw [List.mem_singleton.mp hy]; omega⟩
        refine pg_ca 7 (L := [0 ≤ j ∧ j < (144 : Int)]) (Mc := pm_N_paintFrom) (as := [.inr (.inr 20), .inl (g2 7 j.toNat)]) (h0 := g2) (pc := 47) (lv := [(0, .inr (.inr 20)), (1, .inl f), (2, .inl j)]) (rest := [.inl f]) rfl ⟨by omega, by omega⟩ (gp_pf (cm_B_fr hBg ef_ (by decide) (by decide)) (gn_I_fr (by rw [hf2 20 (by decide)]) (by rw [hf2 21 (by decide)]) hG) (c := g2 7 j.toNat) (by rw [e72]; exact hCg _ (by omega)) (L := (gp_R (gp_S h s n) (n * n).toNat (h 7) j.toNat).1 ++ [j]) hP2 (by simp)) ?_
        intro r_1 g3 e_1; obtain ⟨f3, er_, ef3_, hP3, hC3⟩ := e_1; rw [er_]
        have eSg : gp_S g2 s n = gp_S h s n := gp_S_fr (hf2 20 (by decide)) (hf2 21 (by decide)) s n
        rw [eSg] at hP3 hC3
        have hf3 := pg_fr_tr hf2 ef3_ (by decide)
        refine pg_go 4 (L := []) (st' := (11, [(0, .inr (.inr 20)), (1, .inl (f + f3)), (2, .inl (j + 1))], [], g3)) rfl trivial ?_
        refine ih g3 _ _ (by omega) (by omega) hf3 ?_ ?_ ?_ (fun hz => ?_)
        · rw [ek, gp_R_new (by rw [ek2]; exact hin), ek2]; exact hP3
        · intro q hq
          rw [ek, gp_R_new (by rw [ek2]; exact hin), ek2]
          rw [hC3.1 q hq, e72, h7 j.toNat (by omega), h7 q hq]
        · rw [ek, gp_R_new (by rw [ek2]; exact hin), ek2, hC3.2.1, hfv, e72]
          congr 1
          refine pg_cn_congr (fun q hq => ?_)
          rw [h7 j.toNat (by omega), h7 q (by omega)]
        · have f3b : 0 ≤ f3 := by rw [hC3.2.1]; exact (pg_cn_bd _ _).1
          have a := hC3.2.2 (by omega)
          have b := h0 (by omega)
          exact ⟨a.1.trans ((ef_ 7 (by decide)).trans b.1), a.2.trans ((ef_ 8 (by decide)).trans b.2)⟩
theorem gp_al {h : pg_H} {s n : Int} (hB : cm_B h s n) (hG : gn_I h s n) (hI : rc_I h) (hC : cp_C h) (hS : cp_S h n) : pg_Sem true pm_N_paintAlike [.inr (.inr 20)] h (fun r h' => ∃ L : List Int, r = some (.inl (gp_R (gp_S h s n) (n * n).toNat (h 7) (n * n).toNat).2.2) ∧ pg_fr [1, 2, 3, 7, 8] h h' ∧ gp_B h' n L ∧ (∀ q : Nat, (q : Int) < n * n → h' 7 q = (gp_R (gp_S h s n) (n * n).toNat (h 7) (n * n).toNat).2.1 q) ∧ ((gp_R (gp_S h s n) (n * n).toNat (h 7) (n * n).toNat).2.2 = 0 → h' 7 = h 7 ∧ h' 8 = h 8)) := by
  obtain ⟨hs, ⟨hn1, hn2⟩, e1, e2, e3, e5⟩ := id hB
  have hr := mt_rd_or hs
  have hnn := mt_nn hn1 hn2
  refine pg_Sem_of pm_N_paintAlike_f rfl ?_
  refine pg_ca 2 (L := []) (Mc := pm_R_clear) (as := [.inr (.inr 1)]) (h0 := h) (pc := 7) (lv := [(0, .inr (.inr 20))]) (rest := []) rfl trivial (rl_clear hI) ?_
  intro r_1 g e_1; obtain ⟨er_, eL_, ef_⟩ := e_1; rw [er_]
  refine pg_go 4 (L := []) (st' := (11, [(0, .inr (.inr 20)), (1, .inl 0), (2, .inl 0)], [], g)) rfl trivial ?_
  exact gp_al_l hB hG (n * n).toNat g 0 0 (by omega) (by omega) (pg_fr_tr (pg_fr_rf _ _) ef_ (by decide)) ⟨cp_C_fr hC ef_ (by decide), cp_S_fr hS ef_ (by decide) (by decide), eL_, fun x hx => by cases hx⟩ (fun q hq => by rw [ef_ 7 (by decide)]; rfl) rfl (fun _ => ⟨ef_ 7 (by decide), ef_ 8 (by decide)⟩)
