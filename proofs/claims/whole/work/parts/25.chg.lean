/-! Picture: changes -/
theorem cm_B_fr {h g : pg_H} {s n : Int} {cs : List Nat} (hB : cm_B h s n) (hf : pg_fr cs h g) (h4 : 4 ∉ cs) (h5 : 5 ∉ cs) : cm_B g s n := by
  obtain ⟨hs, hn, e1, e2, e3, e5⟩ := hB
  refine ⟨hs, hn, ?_, ?_, ?_, fun j hj => ?_⟩
  · rw [hf 4 h4]; exact e1
  · rw [hf 4 h4]; exact e2
  · rw [hf 4 h4]; exact e3
  · rw [hf 5 h5]; exact e5 j hj
/-- the points before (x, y), row by row -/
def mt_dn (n x y a b : Int) : Prop := 0 ≤ a ∧ a < n ∧ 0 ≤ b ∧ b < n ∧ (b < y ∨ (b = y ∧ a < x))
def mt_imp (col : Nat → Int) (s n k u v x y : Int) (im : Nat → Int) : Prop := (∀ a b : Int, mt_dn n x y a b → im (col (mt_pt n a b).toNat).toNat = col (mt_tg s n k u v a b).toNat) ∧ ∀ c : Nat, c < 10 → (∀ a b : Int, mt_dn n x y a b → col (mt_pt n a b).toNat ≠ c) → im c = -1
section IMP
variable {col : Nat → Int} {s n k u v x y : Int} {im : Nat → Int}
theorem mt_dn_s {a b : Int} (h : mt_dn n (x + 1) y a b) : mt_dn n x y a b ∨ (a = x ∧ b = y) := by
  unfold mt_dn at *
  omega
theorem mt_dn_m {a b : Int} (h : mt_dn n x y a b) : mt_dn n (x + 1) y a b := by
  unfold mt_dn at *
  omega
theorem mt_imp_0 (h : ∀ c : Nat, c < 10 → im c = -1) : mt_imp col s n k u v 0 0 im := by
  refine ⟨fun a b hd => ?_, fun c hc _ => h c hc⟩
  unfold mt_dn at hd
  omega
theorem mt_imp_new {g : pg_H} (hn : 1 ≤ n ∧ n ≤ 12) (hC : ∀ p : Nat, p < 144 → 0 ≤ col p ∧ col p ≤ 9) (hx : 0 ≤ x ∧ x < n) (hy : 0 ≤ y ∧ y < n) (hI : mt_imp col s n k u v x y (g 9)) (h1 : g 9 (col (mt_pt n x y).toNat).toNat = -1) :
    mt_imp col s n k u v (x + 1) y (pg_up g 9 (col (mt_pt n x y).toNat).toNat (col (mt_tg s n k u v x y).toNat) 9) := by
  have hb : ∀ a b : Int, mt_dn n (x + 1) y a b → 0 ≤ col (mt_pt n a b).toNat ∧ col (mt_pt n a b).toNat ≤ 9 := by
    intro a b hd
    unfold mt_dn at hd
    have := mt_pt_bd hn.1 hn.2 (x := a) (y := b) ⟨by omega, by omega⟩ ⟨by omega, by omega⟩
    exact hC _ (by omega)
  have hxy : mt_dn n (x + 1) y x y := by unfold mt_dn; omega
  refine ⟨fun a b hd => ?_, fun c hc hno => ?_⟩
  · rw [pg_up_at]
    rcases mt_dn_s hd with hd' | ⟨rfl, rfl⟩
    · by_cases he : (col (mt_pt n a b).toNat).toNat = (col (mt_pt n x y).toNat).toNat
      · exfalso
        have h2 := hI.1 a b hd'
        rw [he, h1] at h2
        have h3 := mt_tg_bd (s := s) (k := k) (u := u) (v := v) (x := a) (y := b) hn.1 hn.2
        have h4 := hC (mt_tg s n k u v a b).toNat (by omega)
        omega
      · rw [if_neg he]
        exact hI.1 a b hd'
    · rw [if_pos rfl]
  · rw [pg_up_at]
    have hne := hno x y hxy
    have hb0 := hb x y hxy
    rw [if_neg (by omega)]
    exact hI.2 c hc (fun a b hd => hno a b (mt_dn_m hd))
theorem mt_imp_same (hI : mt_imp col s n k u v x y im) (h1 : im (col (mt_pt n x y).toNat).toNat = col (mt_tg s n k u v x y).toNat) : mt_imp col s n k u v (x + 1) y im := by
  refine ⟨fun a b hd => ?_, fun c hc hno => hI.2 c hc (fun a b hd => hno a b (mt_dn_m hd))⟩
  rcases mt_dn_s hd with hd' | ⟨rfl, rfl⟩
  · exact hI.1 a b hd'
  · exact h1
theorem mt_imp_bad (hn : 1 ≤ n ∧ n ≤ 12) (hC : ∀ p : Nat, p < 144 → 0 ≤ col p ∧ col p ≤ 9) (hx : 0 ≤ x ∧ x < n) (hy : 0 ≤ y ∧ y < n) (hI : mt_imp col s n k u v x y im) (h1 : im (col (mt_pt n x y).toNat).toNat ≠ -1) (h2 : im (col (mt_pt n x y).toNat).toNat ≠ col (mt_tg s n k u v x y).toNat) : ¬ mt_con col s n k u v := by
  intro hcon
  have hp := mt_pt_bd hn.1 hn.2 (x := x) (y := y) hx hy
  have hc := hC (mt_pt n x y).toNat (by omega)
  apply h1
  apply hI.2 _ (by omega)
  intro a b hd he
  apply h2
  have h3 := hI.1 a b hd
  have h4 : col (mt_pt n a b).toNat = col (mt_pt n x y).toNat := by omega
  rw [← h4, h3]
  have hd' := hd
  unfold mt_dn at hd'
  exact hcon a b x y (by omega) (by omega) (by omega) (by omega) (by omega) (by omega) (by omega) (by omega) h4
theorem mt_imp_row (hI : mt_imp col s n k u v n y im) : mt_imp col s n k u v 0 (y + 1) im := by
  have hd : ∀ a b, mt_dn n 0 (y + 1) a b ↔ mt_dn n n y a b := by
    intro a b
    unfold mt_dn
    omega
  exact ⟨fun a b h => hI.1 a b ((hd a b).mp h), fun c hc h => hI.2 c hc (fun a b h' => h a b ((hd a b).mpr h'))⟩
theorem mt_imp_all (hI : mt_imp col s n k u v 0 n im) : mt_con col s n k u v ∧ mt_img col s n k u v im := by
  have hd : ∀ a b : Int, 0 ≤ a → a < n → 0 ≤ b → b < n → mt_dn n 0 n a b := by
    intro a b h1 h2 h3 h4
    unfold mt_dn
    omega
  refine ⟨fun x y x' y' h1 h2 h3 h4 h5 h6 h7 h8 he => ?_, fun x y h1 h2 h3 h4 => hI.1 x y (hd x y h1 h2 h3 h4), fun c hc hno => hI.2 c hc (fun a b h => ?_)⟩
  · rw [← hI.1 x y (hd x y h1 h2 h3 h4), he]
    exact hI.1 x' y' (hd x' y' h5 h6 h7 h8)
  · unfold mt_dn at h
    exact hno a b (by omega) (by omega) (by omega) (by omega)
end IMP
set_option maxHeartbeats 4000000 in
theorem cp_chg_x {h : pg_H} {s n : Int} (hB : cm_B h s n) (hC : cp_C h) {k u v : Int} (hk : 0 ≤ k ∧ k < 2 * mt_rd s) (hu : -1000 ≤ u ∧ u ≤ 1000) (hv : -1000 ≤ v ∧ v ≤ 1000) {y : Int} (hy : 0 ≤ y ∧ y < n) : ∀ (d : Nat) (g : pg_H) (x : Int) (hd : x + (d : Int) = n) (hx : 0 ≤ x) (hf : pg_fr [9] h g) (hR : ∀ c : Nat, c < 10 → -1 ≤ g 9 c ∧ g 9 c ≤ 9) (hI : mt_imp (h 7) s n k u v x y (g 9)) (hK : ∀ g : pg_H, pg_fr [9] h g → (∀ c : Nat, c < 10 → -1 ≤ g 9 c ∧ g 9 c ≤ 9) → mt_imp (h 7) s n k u v n y (g 9) → pg_Good true pm_C_changes (fun r h' => pg_fr [9] h h' ∧ r = some (.inl (pg_b (mt_con (h 7) s n k u v))) ∧ (mt_con (h 7) s n k u v → mt_img (h 7) s n k u v (h' 9))) (132, [(0, .inr (.inr 6)), (1, .inl k), (2, .inl u), (3, .inl v), (4, .inl (h 4 2)), (5, .inl y)], [], g)), pg_Good true pm_C_changes (fun r h' => pg_fr [9] h h' ∧ r = some (.inl (pg_b (mt_con (h 7) s n k u v))) ∧ (mt_con (h 7) s n k u v → mt_img (h 7) s n k u v (h' 9))) (46, [(0, .inr (.inr 6)), (1, .inl k), (2, .inl u), (3, .inl v), (4, .inl (h 4 2)), (5, .inl y), (6, .inl x)], [], g) := by
  intro d
  induction d with
  | zero =>
    intro g x hd hx hf hR hI hK
    obtain ⟨hs, ⟨hn1, hn2⟩, e1, e2, e3, e5⟩ := id hB
    have hr := mt_rd_or hs
    have hBg := cm_B_fr hB hf (by decide) (by decide)
    have hg7 : g 7 = h 7 := hf 7 (by decide)
    have hg4 : g 4 2 = n := by rw [hf 4 (by decide)]; exact e2
    refine pg_br 2 (L := []) (P := pg_inR x ∧ pg_inR (h 4 2)) (c := (h 4 2) ≤ x) (st1 := (132, [(0, .inr (.inr 6)), (1, .inl k), (2, .inl u), (3, .inl v), (4, .inl (h 4 2)), (5, .inl y), (6, .inl x)], [], g)) (st2 := (53, [(0, .inr (.inr 6)), (1, .inl k), (2, .inl u), (3, .inl v), (4, .inl (h 4 2)), (5, .inl y), (6, .inl x)], [], g)) rfl trivial ⟨⟨by omega, by omega⟩, ⟨by omega, by omega⟩⟩ (fun c_50_1 => ?_) (fun c_50_1 => ?_)
    · refine pg_pick [0, 1, 2, 3, 4, 5] rfl ?_
      exact hK g hf hR (by rw [show n = x by omega]; rw [show x = n by omega] at hI ⊢; exact hI)
    · exact (by exfalso; omega)
  | succ d ih =>
    intro g x hd hx hf hR hI hK
    obtain ⟨hs, ⟨hn1, hn2⟩, e1, e2, e3, e5⟩ := id hB
    have hr := mt_rd_or hs
    have hBg := cm_B_fr hB hf (by decide) (by decide)
    have hg7 : g 7 = h 7 := hf 7 (by decide)
    have hg4 : g 4 2 = n := by rw [hf 4 (by decide)]; exact e2
    have hp0 := mt_pt_bd hn1 hn2 (x := x) (y := y) ⟨by omega, by omega⟩ ⟨by omega, by omega⟩
    have hpe : y * h 4 2 + x = mt_pt n x y := by rw [e2]; rfl
    have ht := mt_tg_bd (s := s) (k := k) (u := u) (v := v) (x := x) (y := y) hn1 hn2
    have hc1 : 0 ≤ g 7 (y * h 4 2 + x).toNat ∧ g 7 (y * h 4 2 + x).toNat ≤ 9 := by rw [hg7]; exact hC _ (by omega)
    have hc2 : 0 ≤ g 7 (mt_tg s n k u v x y).toNat ∧ g 7 (mt_tg s n k u v x y).toNat ≤ 9 := by rw [hg7]; exact hC _ (by omega)
    have hi := hR (g 7 (y * h 4 2 + x).toNat).toNat (by omega)
    refine pg_br 2 (L := []) (P := pg_inR x ∧ pg_inR (h 4 2)) (c := (h 4 2) ≤ x) (st1 := (132, [(0, .inr (.inr 6)), (1, .inl k), (2, .inl u), (3, .inl v), (4, .inl (h 4 2)), (5, .inl y), (6, .inl x)], [], g)) (st2 := (53, [(0, .inr (.inr 6)), (1, .inl k), (2, .inl u), (3, .inl v), (4, .inl (h 4 2)), (5, .inl y), (6, .inl x)], [], g)) rfl trivial ⟨⟨by omega, by omega⟩, ⟨by omega, by omega⟩⟩ (fun c_50_2 => ?_) (fun c_50_2 => ?_)
    · exact (by exfalso; omega)
    · refine pg_ca 18 (L := [0 ≤ ((y * (h 4 2)) + x) ∧ ((y * (h 4 2)) + x) < (144 : Int)]) (Mc := pm_M_target) (as := [.inr (.inr 4), .inl k, .inl u, .inl v, .inl x, .inl y]) (h0 := g) (pc := 86) (lv := [(0, .inr (.inr 6)), (1, .inl k), (2, .inl u), (3, .inl v), (4, .inl (h 4 2)), (5, .inl y), (6, .inl x), (7, .inl (g 7 (((y * (h 4 2)) + x).toNat)))]) (rest := [.inr (.inr 7)]) rfl ⟨by omega, by omega⟩ (cm_target hBg k u v x y ⟨by omega, by omega⟩ ⟨by omega, by omega⟩ ⟨by omega, by omega⟩ ⟨by omega, by omega⟩ ⟨by omega, by omega⟩) ?_
      intro r_1 h_1 e_1; rw [e_1.1, e_1.2]
      refine pg_br 7 (L := [0 ≤ (mt_tg s n k u v x y) ∧ (mt_tg s n k u v x y) < (144 : Int), 0 ≤ (g 7 (((y * (h 4 2)) + x).toNat)) ∧ (g 7 (((y * (h 4 2)) + x).toNat)) < (10 : Int)]) (P := pg_inR (g 9 ((g 7 (((y * (h 4 2)) + x).toNat)).toNat)) ∧ pg_inR (-1)) (c := ¬ (g 9 ((g 7 (((y * (h 4 2)) + x).toNat)).toNat)) = (-1)) (st1 := (112, [(0, .inr (.inr 6)), (1, .inl k), (2, .inl u), (3, .inl v), (4, .inl (h 4 2)), (5, .inl y), (6, .inl x), (7, .inl (g 7 (((y * (h 4 2)) + x).toNat))), (8, .inl (g 7 ((mt_tg s n k u v x y).toNat)))], [], g)) (st2 := (100, [(0, .inr (.inr 6)), (1, .inl k), (2, .inl u), (3, .inl v), (4, .inl (h 4 2)), (5, .inl y), (6, .inl x), (7, .inl (g 7 (((y * (h 4 2)) + x).toNat))), (8, .inl (g 7 ((mt_tg s n k u v x y).toNat)))], [], g)) rfl ⟨⟨by omega, by omega⟩, ⟨by omega, by omega⟩⟩ ⟨⟨by omega, by omega⟩, ⟨by decide, by decide⟩⟩ (fun c_97_3 => ?_) (fun c_97_3 => ?_)
      · refine pg_br 5 (L := [0 ≤ (g 7 (((y * (h 4 2)) + x).toNat)) ∧ (g 7 (((y * (h 4 2)) + x).toNat)) < (10 : Int)]) (P := pg_inR (g 9 ((g 7 (((y * (h 4 2)) + x).toNat)).toNat)) ∧ pg_inR (g 7 ((mt_tg s n k u v x y).toNat))) (c := (g 9 ((g 7 (((y * (h 4 2)) + x).toNat)).toNat)) = (g 7 ((mt_tg s n k u v x y).toNat))) (st1 := (126, [(0, .inr (.inr 6)), (1, .inl k), (2, .inl u), (3, .inl v), (4, .inl (h 4 2)), (5, .inl y), (6, .inl x), (7, .inl (g 7 (((y * (h 4 2)) + x).toNat))), (8, .inl (g 7 ((mt_tg s n k u v x y).toNat)))], [], g)) (st2 := (124, [(0, .inr (.inr 6)), (1, .inl k), (2, .inl u), (3, .inl v), (4, .inl (h 4 2)), (5, .inl y), (6, .inl x), (7, .inl (g 7 (((y * (h 4 2)) + x).toNat))), (8, .inl (g 7 ((mt_tg s n k u v x y).toNat)))], [], g)) rfl ⟨by omega, by omega⟩ ⟨⟨by omega, by omega⟩, ⟨by omega, by omega⟩⟩ (fun c_121_4 => ?_) (fun c_121_4 => ?_)
        · refine pg_go 2 (L := []) (st' := (46, [(0, .inr (.inr 6)), (1, .inl k), (2, .inl u), (3, .inl v), (4, .inl (h 4 2)), (5, .inl y), (6, .inl (x + 1)), (7, .inl (g 7 (((y * (h 4 2)) + x).toNat))), (8, .inl (g 7 ((mt_tg s n k u v x y).toNat)))], [], g)) rfl trivial ?_
          refine pg_pick [0, 1, 2, 3, 4, 5, 6] rfl ?_
          refine ih _ _ (by omega) (by omega) hf hR ?_ hK
          rw [hpe, hg7] at *; exact mt_imp_same hI (by assumption)
        · refine pg_re 1 (L := [0 = 0 ∨ 0 = 1]) (r := some (.inl 0)) (h0 := g) rfl (Or.inl rfl) ?_
          refine ⟨hf, ?_, ?_⟩
          all_goals (rw [hpe, hg7] at *; have hbad := mt_imp_bad ⟨hn1, hn2⟩ hC ⟨by omega, by omega⟩ ⟨by omega, by omega⟩ hI (by assumption) (by assumption))
          · rw [pg_b_f hbad]
          · exact fun hz => absurd hz hbad
      · refine pg_go 8 (L := [0 ≤ (g 7 (((y * (h 4 2)) + x).toNat)) ∧ (g 7 (((y * (h 4 2)) + x).toNat)) < (10 : Int)]) (st' := (46, [(0, .inr (.inr 6)), (1, .inl k), (2, .inl u), (3, .inl v), (4, .inl (h 4 2)), (5, .inl y), (6, .inl (x + 1)), (7, .inl (g 7 (((y * (h 4 2)) + x).toNat))), (8, .inl (g 7 ((mt_tg s n k u v x y).toNat)))], [], pg_up g 9 ((g 7 (((y * (h 4 2)) + x).toNat)).toNat) (g 7 ((mt_tg s n k u v x y).toNat)))) rfl ⟨by omega, by omega⟩ ?_
        refine pg_pick [0, 1, 2, 3, 4, 5, 6] rfl ?_
        refine ih _ _ (by omega) (by omega) (pg_fr_up hf (by decide) _ _) (fun c hc => ?_) ?_ hK
        · rw [pg_up_at]; split
          · omega
          · exact hR c hc
        · rw [hpe, hg7] at *; exact mt_imp_new ⟨hn1, hn2⟩ hC ⟨by omega, by omega⟩ ⟨by omega, by omega⟩ hI (by omega)
theorem cp_chg_y {h : pg_H} {s n : Int} (hB : cm_B h s n) (hC : cp_C h) {k u v : Int} (hk : 0 ≤ k ∧ k < 2 * mt_rd s) (hu : -1000 ≤ u ∧ u ≤ 1000) (hv : -1000 ≤ v ∧ v ≤ 1000) : ∀ (d : Nat) (g : pg_H) (y : Int) (hd : y + (d : Int) = n) (hy : 0 ≤ y) (hf : pg_fr [9] h g) (hR : ∀ c : Nat, c < 10 → -1 ≤ g 9 c ∧ g 9 c ≤ 9) (hI : mt_imp (h 7) s n k u v 0 y (g 9)), pg_Good true pm_C_changes (fun r h' => pg_fr [9] h h' ∧ r = some (.inl (pg_b (mt_con (h 7) s n k u v))) ∧ (mt_con (h 7) s n k u v → mt_img (h 7) s n k u v (h' 9))) (36, [(0, .inr (.inr 6)), (1, .inl k), (2, .inl u), (3, .inl v), (4, .inl (h 4 2)), (5, .inl y)], [], g) := by
  intro d
  induction d with
  | zero =>
    intro g y hd hy hf hR hI
    obtain ⟨hs, ⟨hn1, hn2⟩, e1, e2, e3, e5⟩ := id hB
    have hr := mt_rd_or hs
    have hBg := cm_B_fr hB hf (by decide) (by decide)
    have hg7 : g 7 = h 7 := hf 7 (by decide)
    have hg4 : g 4 2 = n := by rw [hf 4 (by decide)]; exact e2
    refine pg_br 2 (L := []) (P := pg_inR y ∧ pg_inR (h 4 2)) (c := (h 4 2) ≤ y) (st1 := (138, [(0, .inr (.inr 6)), (1, .inl k), (2, .inl u), (3, .inl v), (4, .inl (h 4 2)), (5, .inl y)], [], g)) (st2 := (43, [(0, .inr (.inr 6)), (1, .inl k), (2, .inl u), (3, .inl v), (4, .inl (h 4 2)), (5, .inl y)], [], g)) rfl trivial ⟨⟨by omega, by omega⟩, ⟨by omega, by omega⟩⟩ (fun c_40_1 => ?_) (fun c_40_1 => ?_)
    · refine pg_re 1 (L := [1 = 0 ∨ 1 = 1]) (r := some (.inl 1)) (h0 := g) rfl (Or.inr rfl) ?_
      have hall := mt_imp_all (by rw [show y = n by omega] at hI; exact hI)
      exact ⟨hf, by rw [pg_b_t hall.1], fun _ => hall.2⟩
    · exact (by exfalso; omega)
  | succ d ih =>
    intro g y hd hy hf hR hI
    obtain ⟨hs, ⟨hn1, hn2⟩, e1, e2, e3, e5⟩ := id hB
    have hr := mt_rd_or hs
    have hBg := cm_B_fr hB hf (by decide) (by decide)
    have hg7 : g 7 = h 7 := hf 7 (by decide)
    have hg4 : g 4 2 = n := by rw [hf 4 (by decide)]; exact e2
    refine pg_br 2 (L := []) (P := pg_inR y ∧ pg_inR (h 4 2)) (c := (h 4 2) ≤ y) (st1 := (138, [(0, .inr (.inr 6)), (1, .inl k), (2, .inl u), (3, .inl v), (4, .inl (h 4 2)), (5, .inl y)], [], g)) (st2 := (43, [(0, .inr (.inr 6)), (1, .inl k), (2, .inl u), (3, .inl v), (4, .inl (h 4 2)), (5, .inl y)], [], g)) rfl trivial ⟨⟨by omega, by omega⟩, ⟨by omega, by omega⟩⟩ (fun c_40_2 => ?_) (fun c_40_2 => ?_)
    · exact (by exfalso; omega)
    · refine pg_go 2 (L := []) (st' := (46, [(0, .inr (.inr 6)), (1, .inl k), (2, .inl u), (3, .inl v), (4, .inl (h 4 2)), (5, .inl y), (6, .inl 0)], [], g)) rfl trivial ?_
      refine cp_chg_x hB hC hk hu hv (y := y) ⟨by omega, by omega⟩ n.toNat g _ (by omega) (by omega) hf hR hI (fun g2 hf2 hR2 hI2 => ?_)
      refine pg_go 2 (L := []) (st' := (36, [(0, .inr (.inr 6)), (1, .inl k), (2, .inl u), (3, .inl v), (4, .inl (h 4 2)), (5, .inl (y + 1))], [], g2)) rfl trivial ?_
      exact ih g2 _ (by omega) (by omega) hf2 hR2 (mt_imp_row hI2)
theorem cp_chg_0 {h : pg_H} {s n : Int} (hB : cm_B h s n) (hC : cp_C h) {k u v : Int} (hk : 0 ≤ k ∧ k < 2 * mt_rd s) (hu : -1000 ≤ u ∧ u ≤ 1000) (hv : -1000 ≤ v ∧ v ≤ 1000) : ∀ (d : Nat) (g : pg_H) (j : Int) (hd : j + (d : Int) = 10) (hj : 0 ≤ j) (hf : pg_fr [9] h g) (hI : ∀ c : Nat, (c : Int) < j → g 9 c = -1), pg_Good true pm_C_changes (fun r h' => pg_fr [9] h h' ∧ r = some (.inl (pg_b (mt_con (h 7) s n k u v))) ∧ (mt_con (h 7) s n k u v → mt_img (h 7) s n k u v (h' 9))) (3, [(0, .inr (.inr 6)), (1, .inl k), (2, .inl u), (3, .inl v), (4, .inl j)], [], g) := by
  intro d
  induction d with
  | zero =>
    intro g j hd hj hf hI
    obtain ⟨hs, ⟨hn1, hn2⟩, e1, e2, e3, e5⟩ := id hB
    have hr := mt_rd_or hs
    have hBg := cm_B_fr hB hf (by decide) (by decide)
    have hg7 : g 7 = h 7 := hf 7 (by decide)
    have hg4 : g 4 2 = n := by rw [hf 4 (by decide)]; exact e2
    refine pg_br 2 (L := []) (P := pg_inR j ∧ pg_inR 10) (c := 10 ≤ j) (st1 := (24, [(0, .inr (.inr 6)), (1, .inl k), (2, .inl u), (3, .inl v), (4, .inl j)], [], g)) (st2 := (10, [(0, .inr (.inr 6)), (1, .inl k), (2, .inl u), (3, .inl v), (4, .inl j)], [], g)) rfl trivial ⟨⟨by omega, by omega⟩, ⟨by decide, by decide⟩⟩ (fun c_7_1 => ?_) (fun c_7_1 => ?_)
    · refine pg_go 6 (L := []) (st' := (36, [(0, .inr (.inr 6)), (1, .inl k), (2, .inl u), (3, .inl v), (4, .inl (g 4 2)), (5, .inl 0)], [], g)) rfl trivial ?_
      have hg4b : g 4 2 = h 4 2 := by rw [hg4, e2]
      rw [hg4b]
      exact cp_chg_y hB hC hk hu hv n.toNat g _ (by omega) (by omega) hf (fun c hc => by rw [hI c (by omega)]; omega) (mt_imp_0 (fun c hc => hI c (by omega)))
    · exact (by exfalso; omega)
  | succ d ih =>
    intro g j hd hj hf hI
    obtain ⟨hs, ⟨hn1, hn2⟩, e1, e2, e3, e5⟩ := id hB
    have hr := mt_rd_or hs
    have hBg := cm_B_fr hB hf (by decide) (by decide)
    have hg7 : g 7 = h 7 := hf 7 (by decide)
    have hg4 : g 4 2 = n := by rw [hf 4 (by decide)]; exact e2
    refine pg_br 2 (L := []) (P := pg_inR j ∧ pg_inR 10) (c := 10 ≤ j) (st1 := (24, [(0, .inr (.inr 6)), (1, .inl k), (2, .inl u), (3, .inl v), (4, .inl j)], [], g)) (st2 := (10, [(0, .inr (.inr 6)), (1, .inl k), (2, .inl u), (3, .inl v), (4, .inl j)], [], g)) rfl trivial ⟨⟨by omega, by omega⟩, ⟨by decide, by decide⟩⟩ (fun c_7_2 => ?_) (fun c_7_2 => ?_)
    · exact (by exfalso; omega)
    · refine pg_go 7 (L := [0 ≤ j ∧ j < (10 : Int)]) (st' := (3, [(0, .inr (.inr 6)), (1, .inl k), (2, .inl u), (3, .inl v), (4, .inl (j + 1))], [], pg_up g 9 j.toNat (-1))) rfl ⟨by omega, by omega⟩ ?_
      refine ih _ _ (by omega) (by omega) (pg_fr_up hf (by decide) _ _) (fun c hc => ?_)
      rw [pg_up_at]
      split
      · rfl
      · exact hI c (by omega)
theorem cp_changes {h : pg_H} {s n : Int} (hB : cm_B h s n) (hC : cp_C h) {k u v : Int} (hk : 0 ≤ k ∧ k < 2 * mt_rd s) (hu : -1000 ≤ u ∧ u ≤ 1000) (hv : -1000 ≤ v ∧ v ≤ 1000) : pg_Sem true pm_C_changes [.inr (.inr 6), .inl k, .inl u, .inl v] h (fun r h' => pg_fr [9] h h' ∧ r = some (.inl (pg_b (mt_con (h 7) s n k u v))) ∧ (mt_con (h 7) s n k u v → mt_img (h 7) s n k u v (h' 9))) := by
  refine pg_Sem_of pm_C_changes_f rfl ?_
  refine pg_go 2 (L := []) (st' := (3, [(0, .inr (.inr 6)), (1, .inl k), (2, .inl u), (3, .inl v), (4, .inl 0)], [], h)) rfl trivial ?_
  exact cp_chg_0 hB hC hk hu hv 10 h _ (by omega) (by omega) (pg_fr_rf _ _) (fun c hc => by omega)
