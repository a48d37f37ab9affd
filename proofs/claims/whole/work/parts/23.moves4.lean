/-! Moves: choose -/
theorem cm_choose_s {g : pg_H} {s k : Int} (hs : s = 0 ∨ s = 1) (hk : 0 ≤ k ∧ k < 2 * mt_rd s) (hM : ∀ j : Nat, (j : Int) < 4 * k → g 5 j = mt_e s j) :
    ∀ j : Nat, (j : Int) < 4 * (k + 1) → pg_up (pg_up (pg_up (pg_up g 5 (4 * k + 0).toNat (mt_cl s k 1 0).1) 5 (4 * k + 2 + 0).toNat (mt_cl s k 1 0).2) 5 (4 * k + 1).toNat (mt_cl s k 0 1).1) 5 (4 * k + 2 + 1).toNat (mt_cl s k 0 1).2 5 j = mt_e s j := by
  intro j hj
  obtain ⟨h1, h2⟩ := mt_cl_ok hs hk
  rw [h1, h2]
  simp only [pg_up_at]
  by_cases c3 : j = (4 * k + 2 + 1).toNat
  · rw [if_pos c3, c3]; congr 1; omega
  · rw [if_neg c3]
    by_cases c1 : j = (4 * k + 1).toNat
    · rw [if_pos c1, c1]
    · rw [if_neg c1]
      by_cases c2 : j = (4 * k + 2 + 0).toNat
      · rw [if_pos c2, c2]; congr 1; omega
      · rw [if_neg c2]
        by_cases c0 : j = (4 * k + 0).toNat
        · rw [if_pos c0, c0]; congr 1; omega
        · rw [if_neg c0]
          exact hM j (by omega)
theorem cm_choose_l {h0 : pg_H} {s n : Int} (hs : s = 0 ∨ s = 1) (hn : 1 ≤ n ∧ n ≤ 12) : ∀ (d : Nat) (g : pg_H) (k : Int) (hk : k + (d : Int) = 2 * mt_rd s) (hk0 : 0 ≤ k) (e1 : g 4 1 = s) (e2 : g 4 2 = n) (e3 : g 4 3 = mt_rd s) (hM : ∀ j : Nat, (j : Int) < 4 * k → g 5 j = mt_e s j) (hf : pg_fr [4, 5] h0 g), pg_Good true pm_M_choose (fun r h' => r = none ∧ cm_B h' s n ∧ pg_fr [4, 5] h0 h') (26, [(0, .inr (.inr 4)), (1, .inl s), (2, .inl n), (3, .inl k)], [], g) := by
  intro d
  induction d with
  | zero =>
    intro g k hk hk0 e1 e2 e3 hM hf
    have hr := mt_rd_or hs
    refine pg_br 5 (L := []) (P := pg_inR k ∧ pg_inR (2 * (g 4 3))) (c := (2 * (g 4 3)) ≤ k) (st1 := (58, [(0, .inr (.inr 4)), (1, .inl s), (2, .inl n), (3, .inl k)], [], g)) (st2 := (36, [(0, .inr (.inr 4)), (1, .inl s), (2, .inl n), (3, .inl k)], [], g)) rfl trivial ⟨⟨by omega, by omega⟩, ⟨by omega, by omega⟩⟩ (fun c_33_1 => ?_) (fun c_33_1 => ?_)
    · refine pg_re 0 (L := []) (r := none) (h0 := g) rfl trivial ?_
      exact ⟨rfl, ⟨hs, hn, e1, e2, e3, fun j hj => hM j (by omega)⟩, hf⟩
    · exact (by exfalso; omega)
  | succ d ih =>
    intro g k hk hk0 e1 e2 e3 hM hf
    have hr := mt_rd_or hs
    refine pg_br 5 (L := []) (P := pg_inR k ∧ pg_inR (2 * (g 4 3))) (c := (2 * (g 4 3)) ≤ k) (st1 := (58, [(0, .inr (.inr 4)), (1, .inl s), (2, .inl n), (3, .inl k)], [], g)) (st2 := (36, [(0, .inr (.inr 4)), (1, .inl s), (2, .inl n), (3, .inl k)], [], g)) rfl trivial ⟨⟨by omega, by omega⟩, ⟨by omega, by omega⟩⟩ (fun c_33_2 => ?_) (fun c_33_2 => ?_)
    · exact (by exfalso; omega)
    · refine pg_ca 5 (L := []) (Mc := pm_M_setColumn) (as := [.inr (.inr 4), .inl k, .inl 0, .inl 1, .inl 0]) (h0 := g) (pc := 44) (lv := [(0, .inr (.inr 4)), (1, .inl s), (2, .inl n), (3, .inl k)]) (rest := []) rfl trivial (cm_setColumn (h := g) hs (by exact e1) (by exact e3) (k := k) (c := 0) (x0 := 1) (y0 := 0) ⟨by omega, by omega⟩ (by omega)) ?_
      intro r_1 h_1 e_1; rw [e_1.1, e_1.2]
      refine pg_ca 5 (L := []) (Mc := pm_M_setColumn) (as := [.inr (.inr 4), .inl k, .inl 1, .inl 0, .inl 1]) (h0 := pg_up (pg_up g 5 ((4 * k + 0).toNat) ((mt_cl s k 1 0).1)) 5 ((4 * k + 2 + 0).toNat) ((mt_cl s k 1 0).2)) (pc := 52) (lv := [(0, .inr (.inr 4)), (1, .inl s), (2, .inl n), (3, .inl k)]) (rest := []) rfl trivial (cm_setColumn (h := pg_up (pg_up g 5 ((4 * k + 0).toNat) ((mt_cl s k 1 0).1)) 5 ((4 * k + 2 + 0).toNat) ((mt_cl s k 1 0).2)) hs (by exact e1) (by exact e3) (k := k) (c := 1) (x0 := 0) (y0 := 1) ⟨by omega, by omega⟩ (by omega)) ?_
      intro r_1 h_1 e_1; rw [e_1.1, e_1.2]
      refine pg_go 2 (L := []) (st' := (26, [(0, .inr (.inr 4)), (1, .inl s), (2, .inl n), (3, .inl (k + 1))], [], pg_up (pg_up (pg_up (pg_up g 5 ((4 * k + 0).toNat) ((mt_cl s k 1 0).1)) 5 ((4 * k + 2 + 0).toNat) ((mt_cl s k 1 0).2)) 5 ((4 * k + 1).toNat) ((mt_cl s k 0 1).1)) 5 ((4 * k + 2 + 1).toNat) ((mt_cl s k 0 1).2))) rfl trivial ?_
      exact ih _ _ (by omega) (by omega) e1 e2 e3 (cm_choose_s hs ⟨by omega, by omega⟩ hM) (pg_fr_up (pg_fr_up (pg_fr_up (pg_fr_up hf (by decide) _ _) (by decide) _ _) (by decide) _ _) (by decide) _ _)
theorem cm_choose (h : pg_H) (s n : Int) (hs : s = 0 ∨ s = 1) (hn : 1 ≤ n ∧ n ≤ 12) : pg_Sem true pm_M_choose [.inr (.inr 4), .inl s, .inl n] h (fun r h' => r = none ∧ cm_B h' s n ∧ pg_fr [4, 5] h h') := by
  have hr := mt_rd_or hs
  refine pg_Sem_of pm_M_choose_f rfl ?_
  refine pg_br 8 (L := []) (P := pg_inR s) (c := ¬ s = 0) (st1 := (19, [(0, .inr (.inr 4)), (1, .inl s), (2, .inl n)], [.inr (.inr 4)], pg_up (pg_up h 4 1 s) 4 2 n)) (st2 := (15, [(0, .inr (.inr 4)), (1, .inl s), (2, .inl n)], [.inr (.inr 4)], pg_up (pg_up h 4 1 s) 4 2 n)) rfl trivial ⟨by omega, by omega⟩ (fun c_12_1 => ?_) (fun c_12_1 => ?_)
  · refine pg_go 4 (L := []) (st' := (26, [(0, .inr (.inr 4)), (1, .inl s), (2, .inl n), (3, .inl 0)], [], pg_up (pg_up (pg_up h 4 1 s) 4 2 n) 4 3 6)) rfl trivial ?_
    refine cm_choose_l hs hn (2 * mt_rd s).toNat _ _ (by omega) (by omega) rfl rfl ?_ (fun j hj => by omega) (pg_fr_up (pg_fr_up (pg_fr_up (pg_fr_rf _ _) (by decide) _ _) (by decide) _ _) (by decide) _ _)
    first | (show (4 : Int) = mt_rd s; omega) | (show (6 : Int) = mt_rd s; omega)
  · refine pg_go 5 (L := []) (st' := (26, [(0, .inr (.inr 4)), (1, .inl s), (2, .inl n), (3, .inl 0)], [], pg_up (pg_up (pg_up h 4 1 s) 4 2 n) 4 3 4)) rfl trivial ?_
    refine cm_choose_l hs hn (2 * mt_rd s).toNat _ _ (by omega) (by omega) rfl rfl ?_ (fun j hj => by omega) (pg_fr_up (pg_fr_up (pg_fr_up (pg_fr_rf _ _) (by decide) _ _) (by decide) _ _) (by decide) _ _)
    first | (show (4 : Int) = mt_rd s; omega) | (show (6 : Int) = mt_rd s; omega)
