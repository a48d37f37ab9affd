/-! Signature: followEdge, lookAt -/
/-- what is reached from one place: LINEARS 0 .. m - 1 -/
noncomputable def sg_Sk (h : pg_H) (s x : Int) : Nat → List Int
  | 0 => []
  | m + 1 => sg_Sk h s x m ++ sg_K h s m (x % h 15 5) (x / h 15 5)
noncomputable def sg_S (h : pg_H) (s x : Int) : List Int := sg_Sk h s x (2 * mt_rd s).toNat
theorem sg_K_fr {h g : pg_H} (h10 : ∀ j, j ≠ 8 → j ≠ 9 → g 10 j = h 10 j) (h11 : g 11 = h 11) (h12 : g 12 = h 12) (h5 : g 15 5 = h 15 5) (h6 : g 15 6 = h 15 6) (s k p q : Int) : sg_K g s k p q = sg_K h s k p q := by
  unfold sg_K sg_rd sy_F
  rw [h10 4 (by decide) (by decide), h10 5 (by decide) (by decide), h10 6 (by decide) (by decide), h11, h12, h5, h6]
theorem sg_S_fr {h g : pg_H} (h10 : ∀ j, j ≠ 8 → j ≠ 9 → g 10 j = h 10 j) (h11 : g 11 = h 11) (h12 : g 12 = h 12) (h5 : g 15 5 = h 15 5) (h6 : g 15 6 = h 15 6) (s : Int) : sg_S g s = sg_S h s := by
  funext x
  unfold sg_S
  generalize (2 * mt_rd s).toNat = m
  induction m with
  | zero => rfl
  | succ m ih =>
    simp only [sg_Sk]
    rw [ih, sg_K_fr h10 h11 h12 h5 h6, h5]
theorem sg_K_bd {h : pg_H} {s : Int} (hR : sy_R h s) (hW : sg_W h) (k p q : Int) : ∀ x ∈ sg_K h s k p q, 0 ≤ x ∧ x < h 15 5 * h 15 6 := by
  intro x hx
  unfold sg_K at hx
  have hb := fun p q => sg_rd_bd hR hW p q
  split at hx
  · cases hx
  · rcases List.mem_cons.mp hx with rfl | hx
    · exact ⟨(hb _ _).1, (hb _ _).2.2⟩
    · split at hx
      · rw [List.mem_singleton.mp hx]
        exact ⟨(hb _ _).1, (hb _ _).2.2⟩
      · cases hx
theorem sg_S_bd {h : pg_H} {s : Int} (hR : sy_R h s) (hW : sg_W h) (y : Int) : ∀ x ∈ sg_S h s y, 0 ≤ x ∧ x < h 15 5 * h 15 6 := by
  unfold sg_S
  generalize (2 * mt_rd s).toNat = m
  induction m with
  | zero => intro x hx; cases hx
  | succ m ih =>
    intro x hx
    rcases List.mem_append.mp hx with hx | hx
    · exact ih x hx
    · exact sg_K_bd hR hW _ _ _ x hx
theorem sg_fe_k {h : pg_H} {s n : Int} (hB : cm_B h s n) (hR : sy_R h s) (hW : sg_W h) {a x : Int} {L LL : List Int} (hx : 0 ≤ x ∧ x < h 15 5 * h 15 6) : ∀ (d : Nat) (g : pg_H) (k : Int) (hd : k + (d : Int) = 2 * mt_rd s) (hk : 0 ≤ k) (hf : pg_fr [1, 2, 3] h g) (hL : rc_L g (bf_ads L (sg_Sk h s x k.toNat))) (hK : ∀ g2 : pg_H, pg_fr [1, 2, 3] h g2 → rc_L g2 (bf_ads L (sg_S h s x)) → pg_Good true pm_G_followEdge (fun r h' => r = none ∧ pg_fr [1, 2, 3] h h' ∧ rc_L h' LL) (106, [(0, .inr (.inr 15)), (1, .inl a)], [], g2)), pg_Good true pm_G_followEdge (fun r h' => r = none ∧ pg_fr [1, 2, 3] h h' ∧ rc_L h' LL) (79, [(0, .inr (.inr 15)), (1, .inl a), (2, .inl x), (3, .inl (x % h 15 5)), (4, .inl (x / h 15 5)), (5, .inl k)], [], g) := by
  intro d
  induction d with
  | zero =>
    intro g k hd hk hf hL hK
    obtain ⟨hs, ⟨hn1, hn2⟩, e1, e2, e3, e5⟩ := id hB
    have hr := mt_rd_or hs
    obtain ⟨ra, rb, rc, rl, rk⟩ := id hR
    have w1 : 1 ≤ h 15 5 ∧ h 15 5 ≤ 72 := by rw [hW.1]; omega
    have w2 : 1 ≤ h 15 6 ∧ h 15 6 ≤ 72 := by rw [hW.2]; omega
    have hBg := cm_B_fr hB hf (by decide) (by decide)
    have hRg := sy_R_fr hf (by decide) (by decide) (by decide) hR
    have hWg : sg_W g := by unfold sg_W; rw [hf 15 (by decide), hf 10 (by decide)]; exact hW
    have eK := fun k p q => sg_K_fr (h := h) (g := g) (fun j _ _ => by rw [hf 10 (by decide)]) (hf 11 (by decide)) (hf 12 (by decide)) (by rw [hf 15 (by decide)]) (by rw [hf 15 (by decide)]) s k p q
    have g155 : g 15 5 = h 15 5 := by rw [hf 15 (by decide)]
    refine pg_ca 3 (L := []) (Mc := pm_M_linears) (as := [.inr (.inr 4)]) (h0 := g) (pc := 88) (lv := [(0, .inr (.inr 15)), (1, .inl a), (2, .inl x), (3, .inl (x % h 15 5)), (4, .inl (x / h 15 5)), (5, .inl k)]) (rest := [.inl k]) rfl trivial (cm_linears hBg) ?_
    intro r_1 h_1 e_1; rw [e_1.1, e_1.2]
    refine pg_br 0 (L := []) (P := pg_inR k ∧ pg_inR (2 * mt_rd s)) (c := (2 * mt_rd s) ≤ k) (st1 := (106, [(0, .inr (.inr 15)), (1, .inl a), (2, .inl x), (3, .inl (x % h 15 5)), (4, .inl (x / h 15 5)), (5, .inl k)], [], g)) (st2 := (91, [(0, .inr (.inr 15)), (1, .inl a), (2, .inl x), (3, .inl (x % h 15 5)), (4, .inl (x / h 15 5)), (5, .inl k)], [], g)) rfl trivial ⟨⟨by omega, by omega⟩, ⟨by omega, by omega⟩⟩ (fun c_88_1 => ?_) (fun c_88_1 => ?_)
    · refine pg_pick [0, 1] rfl ?_
      refine hK g hf ?_
      unfold sg_S
      rw [show 2 * mt_rd s = k by omega]
      exact hL
    · exact (by exfalso; omega)
  | succ d ih =>
    intro g k hd hk hf hL hK
    obtain ⟨hs, ⟨hn1, hn2⟩, e1, e2, e3, e5⟩ := id hB
    have hr := mt_rd_or hs
    obtain ⟨ra, rb, rc, rl, rk⟩ := id hR
    have w1 : 1 ≤ h 15 5 ∧ h 15 5 ≤ 72 := by rw [hW.1]; omega
    have w2 : 1 ≤ h 15 6 ∧ h 15 6 ≤ 72 := by rw [hW.2]; omega
    have hBg := cm_B_fr hB hf (by decide) (by decide)
    have hRg := sy_R_fr hf (by decide) (by decide) (by decide) hR
    have hWg : sg_W g := by unfold sg_W; rw [hf 15 (by decide), hf 10 (by decide)]; exact hW
    have eK := fun k p q => sg_K_fr (h := h) (g := g) (fun j _ _ => by rw [hf 10 (by decide)]) (hf 11 (by decide)) (hf 12 (by decide)) (by rw [hf 15 (by decide)]) (by rw [hf 15 (by decide)]) s k p q
    have g155 : g 15 5 = h 15 5 := by rw [hf 15 (by decide)]
    have x1 := mt_mod (n := h 15 5) w1.1 x
    have x2 : 0 ≤ x / h 15 5 ∧ x / h 15 5 < h 15 6 := ⟨Int.ediv_nonneg hx.1 (by omega), Int.ediv_lt_of_lt_mul (by omega) (by rw [Int.mul_comm]; exact hx.2)⟩
    refine pg_ca 3 (L := []) (Mc := pm_M_linears) (as := [.inr (.inr 4)]) (h0 := g) (pc := 88) (lv := [(0, .inr (.inr 15)), (1, .inl a), (2, .inl x), (3, .inl (x % h 15 5)), (4, .inl (x / h 15 5)), (5, .inl k)]) (rest := [.inl k]) rfl trivial (cm_linears hBg) ?_
    intro r_1 h_1 e_1; rw [e_1.1, e_1.2]
    refine pg_br 0 (L := []) (P := pg_inR k ∧ pg_inR (2 * mt_rd s)) (c := (2 * mt_rd s) ≤ k) (st1 := (106, [(0, .inr (.inr 15)), (1, .inl a), (2, .inl x), (3, .inl (x % h 15 5)), (4, .inl (x / h 15 5)), (5, .inl k)], [], g)) (st2 := (91, [(0, .inr (.inr 15)), (1, .inl a), (2, .inl x), (3, .inl (x % h 15 5)), (4, .inl (x / h 15 5)), (5, .inl k)], [], g)) rfl trivial ⟨⟨by omega, by omega⟩, ⟨by omega, by omega⟩⟩ (fun c_88_2 => ?_) (fun c_88_2 => ?_)
    · exact (by exfalso; omega)
    · refine pg_ca 4 (L := []) (Mc := pm_G_followBy) (as := [.inr (.inr 15), .inl k, .inl (x % h 15 5), .inl (x / h 15 5)]) (h0 := g) (pc := 100) (lv := [(0, .inr (.inr 15)), (1, .inl a), (2, .inl x), (3, .inl (x % h 15 5)), (4, .inl (x / h 15 5)), (5, .inl k)]) (rest := []) rfl trivial (sg_by hBg hRg hWg hL k (x % h 15 5) (x / h 15 5) ⟨by omega, by omega⟩ ⟨by omega, by omega⟩ ⟨by omega, by omega⟩) ?_
      intro r_1 g2 e_1; obtain ⟨er_, ef_, eL_⟩ := e_1; rw [er_]; rw [eK] at eL_; have hf2 := pg_fr_tr hf ef_ (by decide)
      refine pg_go 2 (L := []) (st' := (79, [(0, .inr (.inr 15)), (1, .inl a), (2, .inl x), (3, .inl (x % h 15 5)), (4, .inl (x / h 15 5)), (5, .inl (k + 1))], [], g2)) rfl trivial ?_
      refine ih g2 _ (by omega) (by omega) hf2 ?_ hK
      rw [show (k + 1).toNat = k.toNat + 1 by omega]
      simp only [sg_Sk]
      rw [bf_ads_app, show ((k.toNat : Nat) : Int) = k by omega]
      exact eL_
theorem sg_fe_a {h : pg_H} {s n : Int} (hB : cm_B h s n) (hR : sy_R h s) (hW : sg_W h) {LL : List Int} : ∀ (d : Nat) (g : pg_H) (a : Int) (L : List Int) (hd : a + (d : Int) = 5184) (ha : 0 ≤ a) (hf : pg_fr [1, 2, 3] h g) (hL : rc_L g L) (hLb : ∀ x ∈ L, 0 ≤ x ∧ x < h 15 5 * h 15 6) (hLL : LL = bf (sg_S h s) d a.toNat L), pg_Good true pm_G_followEdge (fun r h' => r = none ∧ pg_fr [1, 2, 3] h h' ∧ rc_L h' LL) (10, [(0, .inr (.inr 15)), (1, .inl a)], [], g) := by
  intro d
  induction d with
  | zero =>
    intro g a L hd ha hf hL hLb hLL
    obtain ⟨hs, ⟨hn1, hn2⟩, e1, e2, e3, e5⟩ := id hB
    have hr := mt_rd_or hs
    obtain ⟨ra, rb, rc, rl, rk⟩ := id hR
    have w1 : 1 ≤ h 15 5 ∧ h 15 5 ≤ 72 := by rw [hW.1]; omega
    have w2 : 1 ≤ h 15 6 ∧ h 15 6 ≤ 72 := by rw [hW.2]; omega
    have hBg := cm_B_fr hB hf (by decide) (by decide)
    have hRg := sy_R_fr hf (by decide) (by decide) (by decide) hR
    have hWg : sg_W g := by unfold sg_W; rw [hf 15 (by decide), hf 10 (by decide)]; exact hW
    have g155 : g 15 5 = h 15 5 := by rw [hf 15 (by decide)]
    have hle := rc_I_le hL.1
    have hln := hL.2.1
    refine pg_br 4 (L := []) (P := pg_inR a ∧ pg_inR (g 1 2)) (c := (g 1 2) ≤ a) (st1 := (112, [(0, .inr (.inr 15)), (1, .inl a)], [], g)) (st2 := (21, [(0, .inr (.inr 15)), (1, .inl a)], [], g)) rfl trivial ⟨⟨by omega, by omega⟩, ⟨by omega, by omega⟩⟩ (fun c_18_1 => ?_) (fun c_18_1 => ?_)
    · refine pg_re 0 (L := []) (r := none) (h0 := g) rfl trivial ?_
      refine ⟨rfl, hf, ?_⟩
      rw [hLL]
      exact hL
    · exact (by exfalso; omega)
  | succ d ih =>
    intro g a L hd ha hf hL hLb hLL
    obtain ⟨hs, ⟨hn1, hn2⟩, e1, e2, e3, e5⟩ := id hB
    have hr := mt_rd_or hs
    obtain ⟨ra, rb, rc, rl, rk⟩ := id hR
    have w1 : 1 ≤ h 15 5 ∧ h 15 5 ≤ 72 := by rw [hW.1]; omega
    have w2 : 1 ≤ h 15 6 ∧ h 15 6 ≤ 72 := by rw [hW.2]; omega
    have hBg := cm_B_fr hB hf (by decide) (by decide)
    have hRg := sy_R_fr hf (by decide) (by decide) (by decide) hR
    have hWg : sg_W g := by unfold sg_W; rw [hf 15 (by decide), hf 10 (by decide)]; exact hW
    have g155 : g 15 5 = h 15 5 := by rw [hf 15 (by decide)]
    have hle := rc_I_le hL.1
    have hln := hL.2.1
    refine pg_br 4 (L := []) (P := pg_inR a ∧ pg_inR (g 1 2)) (c := (g 1 2) ≤ a) (st1 := (112, [(0, .inr (.inr 15)), (1, .inl a)], [], g)) (st2 := (21, [(0, .inr (.inr 15)), (1, .inl a)], [], g)) rfl trivial ⟨⟨by omega, by omega⟩, ⟨by omega, by omega⟩⟩ (fun c_18_2 => ?_) (fun c_18_2 => ?_)
    · refine pg_re 0 (L := []) (r := none) (h0 := g) rfl trivial ?_
      refine ⟨rfl, hf, ?_⟩
      rw [hLL]
      have hnone : L[a.toNat]? = none := List.getElem?_eq_none (by omega)
      simp only [bf, hnone]
      exact hL
    · refine pg_br 2 (L := []) (P := pg_inR a ∧ pg_inR 5184) (c := 5184 ≤ a) (st1 := (112, [(0, .inr (.inr 15)), (1, .inl a)], [], g)) (st2 := (28, [(0, .inr (.inr 15)), (1, .inl a)], [], g)) rfl trivial ⟨⟨by omega, by omega⟩, ⟨by decide, by decide⟩⟩ (fun c_25_3 => ?_) (fun c_25_3 => ?_)
      · exact (by exfalso; omega)
      · obtain ⟨x_, hx_⟩ := list_at (A := L) (j := a.toNat) (by omega)
        have hxb := hLb x_ (List.mem_of_getElem? hx_)
        have hprd := pg_prod_bd (a := h 10 4) (c := h 10 6) ra rc
        have hxl : x_ < 5184 := by
          have h1 : h 15 5 * h 15 6 ≤ 72 * 72 := Int.mul_le_mul w1.2 w2.2 (by omega) (by decide)
          omega
        have t1 : Int.tmod x_ (g 15 5) = x_ % h 15 5 := by rw [g155, pg_tmod_nn hxb.1]
        have t2 : Int.tdiv x_ (g 15 5) = x_ / h 15 5 := by rw [g155, pg_tdiv_nn hxb.1]
        have hbf : bf (sg_S h s) (d + 1) a.toNat L = bf (sg_S h s) d (a.toNat + 1) (bf_ads L (sg_S h s x_)) := by simp only [bf]; rw [hx_]
        refine pg_ca 3 (L := []) (Mc := pm_R_at) (as := [.inr (.inr 1), .inl a]) (h0 := g) (pc := 36) (lv := [(0, .inr (.inr 15)), (1, .inl a)]) (rest := []) rfl trivial (rl_at hL a x_ ha hx_) ?_
        intro r_1 h_1 e_1; rw [e_1.1, e_1.2]
        refine pg_br 4 (L := []) (P := pg_inR (g 15 5) ∧ pg_inR 1) (c := 1 ≤ (g 15 5)) (st1 := (49, [(0, .inr (.inr 15)), (1, .inl a), (2, .inl x_)], [], g)) (st2 := (45, [(0, .inr (.inr 15)), (1, .inl a), (2, .inl x_)], [], g)) rfl trivial ⟨⟨by omega, by omega⟩, ⟨by decide, by decide⟩⟩ (fun c_42_51 => ?_) (fun c_42_51 => ?_)
        · refine pg_br 8 (L := [(g 15 5) ≠ 0 ∧ pg_inR x_ ∧ pg_inR (g 15 5)]) (P := pg_inR (g 15 5) ∧ pg_inR 1) (c := 1 ≤ (g 15 5)) (st1 := (68, [(0, .inr (.inr 15)), (1, .inl a), (2, .inl x_), (3, .inl (Int.tmod x_ (g 15 5)))], [], g)) (st2 := (64, [(0, .inr (.inr 15)), (1, .inl a), (2, .inl x_), (3, .inl (Int.tmod x_ (g 15 5)))], [], g)) rfl ⟨by omega, ⟨by omega, by omega⟩, ⟨by omega, by omega⟩⟩ ⟨⟨by omega, by omega⟩, ⟨by decide, by decide⟩⟩ (fun c_61_52 => ?_) (fun c_61_52 => ?_)
          · refine pg_go 7 (L := [(g 15 5) ≠ 0 ∧ pg_inR x_ ∧ pg_inR (g 15 5)]) (st' := (79, [(0, .inr (.inr 15)), (1, .inl a), (2, .inl x_), (3, .inl (Int.tmod x_ (g 15 5))), (4, .inl (Int.tdiv x_ (g 15 5))), (5, .inl 0)], [], g)) rfl ⟨by omega, ⟨by omega, by omega⟩, ⟨by omega, by omega⟩⟩ ?_
            rw [t1, t2]
            refine sg_fe_k hB hR hW (a := a) (x := x_) (L := L) (LL := LL) hxb (2 * mt_rd s).toNat g 0 (by omega) (by omega) hf hL (fun g2 hf2 hL2 => ?_)
            refine pg_go 2 (L := []) (st' := (10, [(0, .inr (.inr 15)), (1, .inl (a + 1))], [], g2)) rfl trivial ?_
            refine ih g2 _ _ (by omega) (by omega) hf2 hL2 ?_ (by rw [hLL, hbf, show (a + 1).toNat = a.toNat + 1 by omega])
            exact bf_ads_in _ _ hLb (sg_S_bd hR hW x_)
          · exact (by exfalso; omega)
        · exact (by exfalso; omega)
theorem sg_fe {h : pg_H} {s n : Int} (hB : cm_B h s n) (hR : sy_R h s) (hW : sg_W h) {L : List Int} (hL : rc_L h L) (hne : 0 < L.length) (hLb : ∀ x ∈ L, 0 ≤ x ∧ x < h 15 5 * h 15 6) : pg_Sem true pm_G_followEdge [.inr (.inr 15)] h (fun r h' => r = none ∧ pg_fr [1, 2, 3] h h' ∧ rc_L h' (bf (sg_S h s) (5185 - L.length) (L.length - 1) L)) := by
  obtain ⟨hs, ⟨hn1, hn2⟩, e1, e2, e3, e5⟩ := id hB
  have hr := mt_rd_or hs
  obtain ⟨ra, rb, rc, rl, rk⟩ := id hR
  have w1 : 1 ≤ h 15 5 ∧ h 15 5 ≤ 72 := by rw [hW.1]; omega
  have w2 : 1 ≤ h 15 6 ∧ h 15 6 ≤ 72 := by rw [hW.2]; omega
  have hle := rc_I_le hL.1
  have hln := hL.2.1
  refine pg_Sem_of pm_G_followEdge_f rfl ?_
  refine pg_go 6 (L := []) (st' := (10, [(0, .inr (.inr 15)), (1, .inl ((h 1 2) - 1))], [], h)) rfl trivial ?_
  refine sg_fe_a hB hR hW (5185 - L.length) h _ L (by omega) (by omega) (pg_fr_rf _ _) hL hLb ?_
  rw [hln, show ((L.length : Int) - 1).toNat = L.length - 1 by omega]
