/-! the reference: isSymmetry, isChange, is, change, the base -/
def ri_C (g : pg_H) : Prop := ∀ p : Nat, p < 144 → 0 ≤ g 1 p ∧ g 1 p ≤ 9
theorem ri_C_fr {cs fs : List Nat} {g g' : pg_H} (hC : ri_C g) (hf : rf cs fs g g') (h : 1 ∉ cs) : ri_C g' := by
  unfold ri_C
  rw [hf.1 1 (by decide) h]
  exact hC
def mt_inj (im : Nat → Int) : Prop := ∀ c d : Nat, d < c → c < 10 → im c = -1 ∨ im c ≠ im d
/-- what the reference calls a change -/
def mt_chg (col : Nat → Int) (s n k u v : Int) : Prop := mt_con col s n k u v ∧ ∀ im : Nat → Int, mt_img col s n k u v im → mt_inj im
theorem mt_img_u {col : Nat → Int} {s n k u v : Int} {im im' : Nat → Int} (h : mt_img col s n k u v im) (h' : mt_img col s n k u v im') : ∀ c : Nat, c < 10 → im c = im' c := by
  intro c hc
  rcases Classical.em (∃ x y : Int, (0 ≤ x ∧ x < n) ∧ (0 ≤ y ∧ y < n) ∧ col (mt_pt n x y).toNat = c) with ⟨x, y, ⟨h1, h2⟩, ⟨h3, h4⟩, h5⟩ | hno
  · have a := h.1 x y h1 h2 h3 h4
    have b := h'.1 x y h1 h2 h3 h4
    rw [h5] at a b
    have a : im c = _ := a
    have b : im' c = _ := b
    rw [a, b]
  · rw [h.2 c hc (fun x y h1 h2 h3 h4 h5 => hno ⟨x, y, ⟨h1, h2⟩, ⟨h3, h4⟩, h5⟩), h'.2 c hc (fun x y h1 h2 h3 h4 h5 => hno ⟨x, y, ⟨h1, h2⟩, ⟨h3, h4⟩, h5⟩)]
theorem mt_imp_put {col : Nat → Int} {s n k u v x y : Int} {im : Nat → Int} (hn : 1 ≤ n ∧ n ≤ 12) (hC : ∀ p : Nat, p < 144 → 0 ≤ col p ∧ col p ≤ 9) (hx : 0 ≤ x ∧ x < n) (hy : 0 ≤ y ∧ y < n) (hI : mt_imp col s n k u v x y im) (h1 : im (col (mt_pt n x y).toNat).toNat = -1 ∨ im (col (mt_pt n x y).toNat).toNat = col (mt_tg s n k u v x y).toNat) :
    mt_imp col s n k u v (x + 1) y (fun q => if q = (col (mt_pt n x y).toNat).toNat then col (mt_tg s n k u v x y).toNat else im q) := by
  rcases h1 with h1 | h1
  · have h := mt_imp_new (g := fun _ => im) hn hC hx hy hI h1
    have e : pg_up (fun _ => im) 9 (col (mt_pt n x y).toNat).toNat (col (mt_tg s n k u v x y).toNat) 9 = (fun q => if q = (col (mt_pt n x y).toNat).toNat then col (mt_tg s n k u v x y).toNat else im q) := by
      funext q
      rw [pg_up_at]
    rw [e] at h
    exact h
  · have e : (fun q => if q = (col (mt_pt n x y).toNat).toNat then col (mt_tg s n k u v x y).toNat else im q) = im := by
      funext q
      split
      · rename_i hq
        rw [hq, h1]
      · rfl
    rw [e]
    exact mt_imp_same hI h1
theorem mt_dn_r {n y a b : Int} (h : mt_dn n 0 (y + 1) a b) : mt_dn n n y a b := by
  unfold mt_dn at *
  omega
theorem mt_dn_0 {n a b : Int} (h : mt_dn n 0 0 a b) : False := by
  unfold mt_dn at h
  omega
set_option maxHeartbeats 4000000 in
theorem re_sym_x {g0 : pg_H} {s n : Int} (hB0 : rm_B g0 s n) (hC : ri_C g0) {k u v : Int} (hk : 0 ≤ k ∧ k < 2 * mt_rd s) (hu : 0 ≤ u ∧ u < n) (hv : 0 ≤ v ∧ v < n) {y : Int} (hy : 0 ≤ y ∧ y < n) : ∀ (d : Nat) (g : pg_H) (f x : Int) (hd : x + (d : Int) = n) (hx : 0 ≤ x) (hf : rf [] [15, 16] g0 g) (hI : (f = 1 ∧ ∀ a b : Int, mt_dn n x y a b → g0 1 (mt_pt n a b).toNat = g0 1 (mt_tg s n k u v a b).toNat) ∨ (f = 0 ∧ ¬ mt_sym (g0 1) s n k u v)) (hK : ∀ (g2 : pg_H) (f2 : Int), rf [] [15, 16] g0 g2 → ((f2 = 1 ∧ ∀ a b : Int, mt_dn n 0 (y + 1) a b → g0 1 (mt_pt n a b).toNat = g0 1 (mt_tg s n k u v a b).toNat) ∨ (f2 = 0 ∧ ¬ mt_sym (g0 1) s n k u v)) → pg_Good false pm_T_isSymmetry (fun r h' => r = some (.inl (pg_b (mt_sym (g0 1) s n k u v))) ∧ ∃ g', h' = rm g' s n ∧ rf [] [15, 16] g0 g') (6, [(0, .inr (.inr 0)), (1, .inl k), (2, .inl u), (3, .inl v), (4, .inl f2), (5, .inl (y + 1))], [], rm g2 s n)), pg_Good false pm_T_isSymmetry (fun r h' => r = some (.inl (pg_b (mt_sym (g0 1) s n k u v))) ∧ ∃ g', h' = rm g' s n ∧ rf [] [15, 16] g0 g') (23, [(0, .inr (.inr 0)), (1, .inl k), (2, .inl u), (3, .inl v), (4, .inl f), (5, .inl y), (6, .inl x)], [], rm g s n) := by
  intro d
  induction d with
  | zero =>
    intro g f x hd hx hf hI hK
    have hB := rm_B_fr hB0 hf (by decide)
    obtain ⟨hs, hn, -⟩ := id hB
    obtain ⟨hn1, hn2⟩ := id hn
    have hr := mt_rd_or hs
    have hnn := mt_nn hn1 hn2
    have e1 : g 1 = g0 1 := hf.1 1 (by decide) (by decide)
    refine pg_br 3 (L := []) (P := pg_inR x ∧ pg_inR n) (c := n ≤ x) (st1 := (84, [(0, .inr (.inr 0)), (1, .inl k), (2, .inl u), (3, .inl v), (4, .inl f), (5, .inl y), (6, .inl x)], [], rm g s n)) (st2 := (32, [(0, .inr (.inr 0)), (1, .inl k), (2, .inl u), (3, .inl v), (4, .inl f), (5, .inl y), (6, .inl x)], [], rm g s n)) rfl trivial ⟨⟨by omega, by omega⟩, ⟨by omega, by omega⟩⟩ (fun c_29_1 => ?_) (fun c_29_1 => ?_)
    · refine pg_go 2 (L := []) (st' := (6, [(0, .inr (.inr 0)), (1, .inl k), (2, .inl u), (3, .inl v), (4, .inl f), (5, .inl (y + 1)), (6, .inl x)], [], rm g s n)) rfl trivial ?_
      refine pg_pick [0, 1, 2, 3, 4, 5] rfl ?_
      refine hK g f hf ?_
      rcases hI with h1 | h1
      · exact Or.inl ⟨h1.1, fun a b hd => h1.2 a b (by rw [show x = n by omega]; exact mt_dn_r hd)⟩
      · exact Or.inr h1
    · exact (by exfalso; omega)
  | succ d ih =>
    intro g f x hd hx hf hI hK
    have hB := rm_B_fr hB0 hf (by decide)
    obtain ⟨hs, hn, -⟩ := id hB
    obtain ⟨hn1, hn2⟩ := id hn
    have hr := mt_rd_or hs
    have hnn := mt_nn hn1 hn2
    have e1 : g 1 = g0 1 := hf.1 1 (by decide) (by decide)
    have hpe : n * y + x = mt_pt n x y := by unfold mt_pt; rw [Int.mul_comm]
    have hpb := mt_pt_bd hn1 hn2 (x := x) (y := y) ⟨hx, by omega⟩ hy
    have htb := mt_tg_bd (s := s) (k := k) (u := u) (v := v) (x := x) (y := y) hn1 hn2
    have hc1 := hC (mt_pt n x y).toNat (by omega)
    have hc2 := hC (mt_tg s n k u v x y).toNat (by omega)
    rw [← e1] at hc1 hc2
    have hc3 := hc1
    rw [← hpe] at hc3
    refine pg_br 3 (L := []) (P := pg_inR x ∧ pg_inR n) (c := n ≤ x) (st1 := (84, [(0, .inr (.inr 0)), (1, .inl k), (2, .inl u), (3, .inl v), (4, .inl f), (5, .inl y), (6, .inl x)], [], rm g s n)) (st2 := (32, [(0, .inr (.inr 0)), (1, .inl k), (2, .inl u), (3, .inl v), (4, .inl f), (5, .inl y), (6, .inl x)], [], rm g s n)) rfl trivial ⟨⟨by omega, by omega⟩, ⟨by omega, by omega⟩⟩ (fun c_29_2 => ?_) (fun c_29_2 => ?_)
    · exact (by exfalso; omega)
    · refine pg_br 1 (L := []) (P := pg_inR f) (c := f = 0) (st1 := (84, [(0, .inr (.inr 0)), (1, .inl k), (2, .inl u), (3, .inl v), (4, .inl f), (5, .inl y), (6, .inl x)], [], rm g s n)) (st2 := (37, [(0, .inr (.inr 0)), (1, .inl k), (2, .inl u), (3, .inl v), (4, .inl f), (5, .inl y), (6, .inl x)], [], rm g s n)) rfl trivial ⟨by omega, by omega⟩ (fun c_34_3 => ?_) (fun c_34_3 => ?_)
      · refine pg_go 2 (L := []) (st' := (6, [(0, .inr (.inr 0)), (1, .inl k), (2, .inl u), (3, .inl v), (4, .inl f), (5, .inl (y + 1)), (6, .inl x)], [], rm g s n)) rfl trivial ?_
        refine pg_pick [0, 1, 2, 3, 4, 5] rfl ?_
        refine hK g f hf ?_
        rcases hI with h1 | h1
        · exfalso; omega
        · exact Or.inr h1
      · refine pg_ca 8 (L := []) (Mc := pm_T_pointBy) (as := [.inr (.inr 0), .inl k, .inl u, .inl v, .inl x, .inl y]) (h0 := rm g s n) (pc := 52) (lv := [(0, .inr (.inr 0)), (1, .inl k), (2, .inl u), (3, .inl v), (4, .inl f), (5, .inl y), (6, .inl x)]) (rest := [.inr (.inr 1)]) rfl trivial (re_pointBy (g := g) hB k u v x y ⟨by omega, by omega⟩ ⟨by omega, by omega⟩ ⟨by omega, by omega⟩ ⟨by omega, by omega⟩ ⟨by omega, by omega⟩) ?_
        intro r_1 h_1 e_1; rw [e_1.1, e_1.2]
        refine pg_br 10 (L := [0 ≤ (mt_tg s n k u v x y) ∧ (mt_tg s n k u v x y) < (144 : Int), 0 ≤ ((n * y) + x) ∧ ((n * y) + x) < (144 : Int)]) (P := pg_inR (g 1 ((mt_tg s n k u v x y).toNat)) ∧ pg_inR (g 1 (((n * y) + x).toNat))) (c := ¬ (g 1 ((mt_tg s n k u v x y).toNat)) = (g 1 (((n * y) + x).toNat))) (st1 := (75, [(0, .inr (.inr 0)), (1, .inl k), (2, .inl u), (3, .inl v), (4, .inl f), (5, .inl y), (6, .inl x)], [], rm (pg_up (pg_up g 0 15 (mt_x s k x y)) 0 16 (mt_y s k x y)) s n)) (st2 := (71, [(0, .inr (.inr 0)), (1, .inl k), (2, .inl u), (3, .inl v), (4, .inl f), (5, .inl y), (6, .inl x)], [], rm (pg_up (pg_up g 0 15 (mt_x s k x y)) 0 16 (mt_y s k x y)) s n)) rfl ⟨⟨by omega, by omega⟩, ⟨by omega, by omega⟩⟩ ⟨⟨by omega, by omega⟩, ⟨by omega, by omega⟩⟩ (fun c_68_4 => ?_) (fun c_68_4 => ?_)
        · refine pg_go 4 (L := []) (st' := (23, [(0, .inr (.inr 0)), (1, .inl k), (2, .inl u), (3, .inl v), (4, .inl 0), (5, .inl y), (6, .inl (x + 1))], [], rm (pg_up (pg_up g 0 15 (mt_x s k x y)) 0 16 (mt_y s k x y)) s n)) rfl trivial ?_
          refine ih _ _ _ (by omega) (by omega) (rf_0 (rf_0 hf (by decide) _) (by decide) _) ?_ hK
          refine Or.inr ⟨rfl, fun hsy => ?_⟩
          have hz := hsy x y hx (by omega) hy.1 hy.2
          rw [← e1, ← hpe] at hz
          omega
        · refine pg_go 5 (L := []) (st' := (23, [(0, .inr (.inr 0)), (1, .inl k), (2, .inl u), (3, .inl v), (4, .inl 1), (5, .inl y), (6, .inl (x + 1))], [], rm (pg_up (pg_up g 0 15 (mt_x s k x y)) 0 16 (mt_y s k x y)) s n)) rfl trivial ?_
          refine ih _ _ _ (by omega) (by omega) (rf_0 (rf_0 hf (by decide) _) (by decide) _) ?_ hK
          refine Or.inl ⟨rfl, fun a b hd => ?_⟩
          rcases mt_dn_s hd with h1 | ⟨rfl, rfl⟩
          · rcases hI with h2 | h2
            · exact h2.2 a b h1
            · exfalso; omega
          · rw [← e1, ← hpe]; omega
theorem re_sym_y {g0 : pg_H} {s n : Int} (hB0 : rm_B g0 s n) (hC : ri_C g0) {k u v : Int} (hk : 0 ≤ k ∧ k < 2 * mt_rd s) (hu : 0 ≤ u ∧ u < n) (hv : 0 ≤ v ∧ v < n) : ∀ (d : Nat) (g : pg_H) (f y : Int) (hd : y + (d : Int) = n) (hy : 0 ≤ y) (hf : rf [] [15, 16] g0 g) (hI : (f = 1 ∧ ∀ a b : Int, mt_dn n 0 y a b → g0 1 (mt_pt n a b).toNat = g0 1 (mt_tg s n k u v a b).toNat) ∨ (f = 0 ∧ ¬ mt_sym (g0 1) s n k u v)), pg_Good false pm_T_isSymmetry (fun r h' => r = some (.inl (pg_b (mt_sym (g0 1) s n k u v))) ∧ ∃ g', h' = rm g' s n ∧ rf [] [15, 16] g0 g') (6, [(0, .inr (.inr 0)), (1, .inl k), (2, .inl u), (3, .inl v), (4, .inl f), (5, .inl y)], [], rm g s n) := by
  intro d
  induction d with
  | zero =>
    intro g f y hd hy hf hI
    have hB := rm_B_fr hB0 hf (by decide)
    obtain ⟨hs, hn, -⟩ := id hB
    obtain ⟨hn1, hn2⟩ := id hn
    have hr := mt_rd_or hs
    have hnn := mt_nn hn1 hn2
    have e1 : g 1 = g0 1 := hf.1 1 (by decide) (by decide)
    refine pg_br 3 (L := []) (P := pg_inR y ∧ pg_inR n) (c := n ≤ y) (st1 := (90, [(0, .inr (.inr 0)), (1, .inl k), (2, .inl u), (3, .inl v), (4, .inl f), (5, .inl y)], [], rm g s n)) (st2 := (15, [(0, .inr (.inr 0)), (1, .inl k), (2, .inl u), (3, .inl v), (4, .inl f), (5, .inl y)], [], rm g s n)) rfl trivial ⟨⟨by omega, by omega⟩, ⟨by omega, by omega⟩⟩ (fun c_12_1 => ?_) (fun c_12_1 => ?_)
    · refine pg_re 1 (L := [f = 0 ∨ f = 1]) (r := some (.inl f)) (h0 := rm g s n) rfl (by (show _ ∨ _); omega) ?_
      rcases hI with h1 | h1
      · refine ⟨?_, g, rfl, hf⟩
        rw [h1.1, pg_b_t]
        intro a b p1 p2 p3 p4
        first | (exfalso; omega) | exact h1.2 a b (by unfold mt_dn; omega)
      · refine ⟨?_, g, rfl, hf⟩
        rw [h1.1, pg_b_f h1.2]
    · exact (by exfalso; omega)
  | succ d ih =>
    intro g f y hd hy hf hI
    have hB := rm_B_fr hB0 hf (by decide)
    obtain ⟨hs, hn, -⟩ := id hB
    obtain ⟨hn1, hn2⟩ := id hn
    have hr := mt_rd_or hs
    have hnn := mt_nn hn1 hn2
    have e1 : g 1 = g0 1 := hf.1 1 (by decide) (by decide)
    refine pg_br 3 (L := []) (P := pg_inR y ∧ pg_inR n) (c := n ≤ y) (st1 := (90, [(0, .inr (.inr 0)), (1, .inl k), (2, .inl u), (3, .inl v), (4, .inl f), (5, .inl y)], [], rm g s n)) (st2 := (15, [(0, .inr (.inr 0)), (1, .inl k), (2, .inl u), (3, .inl v), (4, .inl f), (5, .inl y)], [], rm g s n)) rfl trivial ⟨⟨by omega, by omega⟩, ⟨by omega, by omega⟩⟩ (fun c_12_2 => ?_) (fun c_12_2 => ?_)
    · exact (by exfalso; omega)
    · refine pg_br 1 (L := []) (P := pg_inR f) (c := f = 0) (st1 := (90, [(0, .inr (.inr 0)), (1, .inl k), (2, .inl u), (3, .inl v), (4, .inl f), (5, .inl y)], [], rm g s n)) (st2 := (20, [(0, .inr (.inr 0)), (1, .inl k), (2, .inl u), (3, .inl v), (4, .inl f), (5, .inl y)], [], rm g s n)) rfl trivial ⟨by omega, by omega⟩ (fun c_17_3 => ?_) (fun c_17_3 => ?_)
      · refine pg_re 1 (L := [f = 0 ∨ f = 1]) (r := some (.inl f)) (h0 := rm g s n) rfl (by (show _ ∨ _); omega) ?_
        rcases hI with h1 | h1
        · exfalso; omega
        · refine ⟨?_, g, rfl, hf⟩
          rw [h1.1, pg_b_f h1.2]
      · refine pg_go 2 (L := []) (st' := (23, [(0, .inr (.inr 0)), (1, .inl k), (2, .inl u), (3, .inl v), (4, .inl f), (5, .inl y), (6, .inl 0)], [], rm g s n)) rfl trivial ?_
        exact re_sym_x hB0 hC hk hu hv (y := y) ⟨hy, by omega⟩ n.toNat g f 0 (by omega) (by omega) hf hI (fun g2 f2 hf2 hI2 => ih g2 f2 _ (by omega) (by omega) hf2 hI2)
theorem re_isSymmetry {g : pg_H} {s n : Int} (hB : rm_B g s n) (hC : ri_C g) (k u v : Int) (hk : 0 ≤ k ∧ k < 2 * mt_rd s) (hu : 0 ≤ u ∧ u < n) (hv : 0 ≤ v ∧ v < n) : pg_Sem false pm_T_isSymmetry [.inr (.inr 0), .inl k, .inl u, .inl v] (rm g s n) (fun r h' => r = some (.inl (pg_b (mt_sym (g 1) s n k u v))) ∧ ∃ g', h' = rm g' s n ∧ rf [] [15, 16] g g') := by
  obtain ⟨hs, hn, hT⟩ := id hB
  obtain ⟨hn1, hn2⟩ := id hn
  have hr := mt_rd_or hs
  refine pg_Sem_of pm_T_isSymmetry_f rfl ?_
  refine pg_go 4 (L := []) (st' := (6, [(0, .inr (.inr 0)), (1, .inl k), (2, .inl u), (3, .inl v), (4, .inl 1), (5, .inl 0)], [], rm g s n)) rfl trivial ?_
  exact re_sym_y hB hC hk hu hv n.toNat g 1 0 (by omega) (by omega) (rf_rf _ _ _) (Or.inl ⟨rfl, fun a b hd => absurd hd (fun h => mt_dn_0 h)⟩)
set_option maxHeartbeats 4000000 in
theorem re_chg_d {g0 : pg_H} {s n : Int} (hB0 : rm_B g0 s n) (hC : ri_C g0) {k u v : Int} (hk : 0 ≤ k ∧ k < 2 * mt_rd s) (hu : 0 ≤ u ∧ u < n) (hv : 0 ≤ v ∧ v < n) {g : pg_H} (hf : rf [13] [15, 16] g0 g) (hb : ∀ c : Nat, c < 10 → -1 ≤ g 13 c ∧ g 13 c ≤ 9) {c : Int} (hc : 0 ≤ c ∧ c < 10) : ∀ (d : Nat) (f e : Int) (hd : e + (d : Int) = c) (he : 0 ≤ e) (hI : (f = 1 ∧ mt_con (g0 1) s n k u v ∧ mt_img (g0 1) s n k u v (g 13) ∧ ∀ a b : Nat, b < a → a < 10 → ((a : Int) < c ∨ ((a : Int) = c ∧ (b : Int) < e)) → g 13 a = -1 ∨ g 13 a ≠ g 13 b) ∨ (f = 0 ∧ ¬ mt_chg (g0 1) s n k u v)) (hK : ∀ f2 : Int, ((f2 = 1 ∧ mt_con (g0 1) s n k u v ∧ mt_img (g0 1) s n k u v (g 13) ∧ ∀ a b : Nat, b < a → a < 10 → ((a : Int) < (c + 1) ∨ ((a : Int) = (c + 1) ∧ (b : Int) < 0)) → g 13 a = -1 ∨ g 13 a ≠ g 13 b) ∨ (f2 = 0 ∧ ¬ mt_chg (g0 1) s n k u v)) → pg_Good false pm_T_isChange (fun r h' => ∃ (g' : pg_H) (z : Int), r = some (.inl z) ∧ h' = rm g' s n ∧ rf [13] [15, 16] g0 g' ∧ ((z = 1 ∧ mt_chg (g0 1) s n k u v ∧ mt_img (g0 1) s n k u v (g' 13)) ∨ (z = 0 ∧ ¬ mt_chg (g0 1) s n k u v))) (150, [(0, .inr (.inr 0)), (1, .inl k), (2, .inl u), (3, .inl v), (4, .inl f2), (5, .inl (c + 1))], [], rm g s n)), pg_Good false pm_T_isChange (fun r h' => ∃ (g' : pg_H) (z : Int), r = some (.inl z) ∧ h' = rm g' s n ∧ rf [13] [15, 16] g0 g' ∧ ((z = 1 ∧ mt_chg (g0 1) s n k u v ∧ mt_img (g0 1) s n k u v (g' 13)) ∨ (z = 0 ∧ ¬ mt_chg (g0 1) s n k u v))) (160, [(0, .inr (.inr 0)), (1, .inl k), (2, .inl u), (3, .inl v), (4, .inl f), (5, .inl c), (6, .inl e)], [], rm g s n) := by
  intro d
  induction d with
  | zero =>
    intro f e hd he hI hK
    have hB := rm_B_fr hB0 hf (by decide)
    obtain ⟨hs, hn, -⟩ := id hB
    obtain ⟨hn1, hn2⟩ := id hn
    have hr := mt_rd_or hs
    have hnn := mt_nn hn1 hn2
    have e1 : g 1 = g0 1 := hf.1 1 (by decide) (by decide)
    refine pg_br 2 (L := []) (P := pg_inR e ∧ pg_inR c) (c := c ≤ e) (st1 := (213, [(0, .inr (.inr 0)), (1, .inl k), (2, .inl u), (3, .inl v), (4, .inl f), (5, .inl c), (6, .inl e)], [], rm g s n)) (st2 := (167, [(0, .inr (.inr 0)), (1, .inl k), (2, .inl u), (3, .inl v), (4, .inl f), (5, .inl c), (6, .inl e)], [], rm g s n)) rfl trivial ⟨⟨by omega, by omega⟩, ⟨by omega, by omega⟩⟩ (fun c_164_1 => ?_) (fun c_164_1 => ?_)
    · refine pg_go 2 (L := []) (st' := (150, [(0, .inr (.inr 0)), (1, .inl k), (2, .inl u), (3, .inl v), (4, .inl f), (5, .inl (c + 1)), (6, .inl e)], [], rm g s n)) rfl trivial ?_
      refine pg_pick [0, 1, 2, 3, 4, 5] rfl ?_
      refine hK f ?_
      rcases hI with ⟨h1, h2, h3, h4⟩ | h1
      · exact Or.inl ⟨h1, h2, h3, fun a b p1 p2 p3 => h4 a b p1 p2 (by omega)⟩
      · exact Or.inr h1
    · exact (by exfalso; omega)
  | succ d ih =>
    intro f e hd he hI hK
    have hB := rm_B_fr hB0 hf (by decide)
    obtain ⟨hs, hn, -⟩ := id hB
    obtain ⟨hn1, hn2⟩ := id hn
    have hr := mt_rd_or hs
    have hnn := mt_nn hn1 hn2
    have e1 : g 1 = g0 1 := hf.1 1 (by decide) (by decide)
    have q1 := hb c.toNat (by omega)
    have q2 := hb e.toNat (by omega)
    refine pg_br 2 (L := []) (P := pg_inR e ∧ pg_inR c) (c := c ≤ e) (st1 := (213, [(0, .inr (.inr 0)), (1, .inl k), (2, .inl u), (3, .inl v), (4, .inl f), (5, .inl c), (6, .inl e)], [], rm g s n)) (st2 := (167, [(0, .inr (.inr 0)), (1, .inl k), (2, .inl u), (3, .inl v), (4, .inl f), (5, .inl c), (6, .inl e)], [], rm g s n)) rfl trivial ⟨⟨by omega, by omega⟩, ⟨by omega, by omega⟩⟩ (fun c_164_2 => ?_) (fun c_164_2 => ?_)
    · exact (by exfalso; omega)
    · refine pg_br 1 (L := []) (P := pg_inR f) (c := f = 0) (st1 := (204, [(0, .inr (.inr 0)), (1, .inl k), (2, .inl u), (3, .inl v), (4, .inl f), (5, .inl c), (6, .inl e)], [], rm g s n)) (st2 := (172, [(0, .inr (.inr 0)), (1, .inl k), (2, .inl u), (3, .inl v), (4, .inl f), (5, .inl c), (6, .inl e)], [], rm g s n)) rfl trivial ⟨by omega, by omega⟩ (fun c_169_3 => ?_) (fun c_169_3 => ?_)
      · refine pg_go 4 (L := []) (st' := (160, [(0, .inr (.inr 0)), (1, .inl k), (2, .inl u), (3, .inl v), (4, .inl 0), (5, .inl c), (6, .inl (e + 1))], [], rm g s n)) rfl trivial ?_
        refine ih _ _ (by omega) (by omega) ?_ hK
        refine Or.inr ⟨rfl, ?_⟩
        rcases hI with ⟨h1, h2, h3, h4⟩ | h1
        · intro hz
          have h5 := hz.2 _ h3 c.toNat e.toNat (by omega) (by omega)
          omega
        · exact h1.2
      · refine pg_br 5 (L := [0 ≤ c ∧ c < (10 : Int)]) (P := pg_inR (g 13 c.toNat) ∧ pg_inR (-1)) (c := (g 13 c.toNat) = (-1)) (st1 := (200, [(0, .inr (.inr 0)), (1, .inl k), (2, .inl u), (3, .inl v), (4, .inl f), (5, .inl c), (6, .inl e)], [], rm g s n)) (st2 := (183, [(0, .inr (.inr 0)), (1, .inl k), (2, .inl u), (3, .inl v), (4, .inl f), (5, .inl c), (6, .inl e)], [], rm g s n)) rfl ⟨by omega, by omega⟩ ⟨⟨by omega, by omega⟩, ⟨by decide, by decide⟩⟩ (fun c_180_4 => ?_) (fun c_180_4 => ?_)
        · refine pg_go 5 (L := []) (st' := (160, [(0, .inr (.inr 0)), (1, .inl k), (2, .inl u), (3, .inl v), (4, .inl 1), (5, .inl c), (6, .inl (e + 1))], [], rm g s n)) rfl trivial ?_
          refine ih _ _ (by omega) (by omega) ?_ hK
          rcases hI with ⟨h1, h2, h3, h4⟩ | h1
          · refine Or.inl ⟨rfl, h2, h3, fun a b p1 p2 p3 => ?_⟩
            rcases (show ((a : Int) < c ∨ ((a : Int) = c ∧ (b : Int) < e)) ∨ (a = c.toNat ∧ b = e.toNat) by omega) with h5 | ⟨rfl, rfl⟩
            · exact h4 a b p1 p2 h5
            · omega
          · exfalso; omega
        · refine pg_br 8 (L := [0 ≤ c ∧ c < (10 : Int), 0 ≤ e ∧ e < (10 : Int)]) (P := pg_inR (g 13 c.toNat) ∧ pg_inR (g 13 e.toNat)) (c := (g 13 c.toNat) = (g 13 e.toNat)) (st1 := (204, [(0, .inr (.inr 0)), (1, .inl k), (2, .inl u), (3, .inl v), (4, .inl f), (5, .inl c), (6, .inl e)], [], rm g s n)) (st2 := (200, [(0, .inr (.inr 0)), (1, .inl k), (2, .inl u), (3, .inl v), (4, .inl f), (5, .inl c), (6, .inl e)], [], rm g s n)) rfl ⟨⟨by omega, by omega⟩, ⟨by omega, by omega⟩⟩ ⟨⟨by omega, by omega⟩, ⟨by omega, by omega⟩⟩ (fun c_197_5 => ?_) (fun c_197_5 => ?_)
          · refine pg_go 4 (L := []) (st' := (160, [(0, .inr (.inr 0)), (1, .inl k), (2, .inl u), (3, .inl v), (4, .inl 0), (5, .inl c), (6, .inl (e + 1))], [], rm g s n)) rfl trivial ?_
            refine ih _ _ (by omega) (by omega) ?_ hK
            refine Or.inr ⟨rfl, ?_⟩
            rcases hI with ⟨h1, h2, h3, h4⟩ | h1
            · intro hz
              have h5 := hz.2 _ h3 c.toNat e.toNat (by omega) (by omega)
              omega
            · exact h1.2
          · refine pg_go 5 (L := []) (st' := (160, [(0, .inr (.inr 0)), (1, .inl k), (2, .inl u), (3, .inl v), (4, .inl 1), (5, .inl c), (6, .inl (e + 1))], [], rm g s n)) rfl trivial ?_
            refine ih _ _ (by omega) (by omega) ?_ hK
            rcases hI with ⟨h1, h2, h3, h4⟩ | h1
            · refine Or.inl ⟨rfl, h2, h3, fun a b p1 p2 p3 => ?_⟩
              rcases (show ((a : Int) < c ∨ ((a : Int) = c ∧ (b : Int) < e)) ∨ (a = c.toNat ∧ b = e.toNat) by omega) with h5 | ⟨rfl, rfl⟩
              · exact h4 a b p1 p2 h5
              · omega
            · exfalso; omega
theorem re_chg_c {g0 : pg_H} {s n : Int} (hB0 : rm_B g0 s n) (hC : ri_C g0) {k u v : Int} (hk : 0 ≤ k ∧ k < 2 * mt_rd s) (hu : 0 ≤ u ∧ u < n) (hv : 0 ≤ v ∧ v < n) {g : pg_H} (hf : rf [13] [15, 16] g0 g) (hb : ∀ c : Nat, c < 10 → -1 ≤ g 13 c ∧ g 13 c ≤ 9) : ∀ (d : Nat) (f c : Int) (hd : c + (d : Int) = 10) (hc : 0 ≤ c) (hI : (f = 1 ∧ mt_con (g0 1) s n k u v ∧ mt_img (g0 1) s n k u v (g 13) ∧ ∀ a b : Nat, b < a → a < 10 → ((a : Int) < c ∨ ((a : Int) = c ∧ (b : Int) < 0)) → g 13 a = -1 ∨ g 13 a ≠ g 13 b) ∨ (f = 0 ∧ ¬ mt_chg (g0 1) s n k u v)), pg_Good false pm_T_isChange (fun r h' => ∃ (g' : pg_H) (z : Int), r = some (.inl z) ∧ h' = rm g' s n ∧ rf [13] [15, 16] g0 g' ∧ ((z = 1 ∧ mt_chg (g0 1) s n k u v ∧ mt_img (g0 1) s n k u v (g' 13)) ∨ (z = 0 ∧ ¬ mt_chg (g0 1) s n k u v))) (150, [(0, .inr (.inr 0)), (1, .inl k), (2, .inl u), (3, .inl v), (4, .inl f), (5, .inl c)], [], rm g s n) := by
  intro d
  induction d with
  | zero =>
    intro f c hd hc hI
    have hB := rm_B_fr hB0 hf (by decide)
    obtain ⟨hs, hn, -⟩ := id hB
    obtain ⟨hn1, hn2⟩ := id hn
    have hr := mt_rd_or hs
    have hnn := mt_nn hn1 hn2
    have e1 : g 1 = g0 1 := hf.1 1 (by decide) (by decide)
    refine pg_br 2 (L := []) (P := pg_inR c ∧ pg_inR 10) (c := 10 ≤ c) (st1 := (219, [(0, .inr (.inr 0)), (1, .inl k), (2, .inl u), (3, .inl v), (4, .inl f), (5, .inl c)], [], rm g s n)) (st2 := (157, [(0, .inr (.inr 0)), (1, .inl k), (2, .inl u), (3, .inl v), (4, .inl f), (5, .inl c)], [], rm g s n)) rfl trivial ⟨⟨by omega, by omega⟩, ⟨by decide, by decide⟩⟩ (fun c_154_1 => ?_) (fun c_154_1 => ?_)
    · refine pg_re 1 (L := [f = 0 ∨ f = 1]) (r := some (.inl f)) (h0 := rm g s n) rfl (by (show _ ∨ _); omega) ?_
      refine ⟨g, f, rfl, rfl, hf, ?_⟩
      rcases hI with ⟨h1, h2, h3, h4⟩ | h1
      · refine Or.inl ⟨h1, ⟨h2, fun im him a b p1 p2 => ?_⟩, h3⟩
        rw [mt_img_u him h3 a (by omega), mt_img_u him h3 b (by omega)]
        exact h4 a b p1 p2 (by omega)
      · exact Or.inr h1
    · exact (by exfalso; omega)
  | succ d ih =>
    intro f c hd hc hI
    have hB := rm_B_fr hB0 hf (by decide)
    obtain ⟨hs, hn, -⟩ := id hB
    obtain ⟨hn1, hn2⟩ := id hn
    have hr := mt_rd_or hs
    have hnn := mt_nn hn1 hn2
    have e1 : g 1 = g0 1 := hf.1 1 (by decide) (by decide)
    refine pg_br 2 (L := []) (P := pg_inR c ∧ pg_inR 10) (c := 10 ≤ c) (st1 := (219, [(0, .inr (.inr 0)), (1, .inl k), (2, .inl u), (3, .inl v), (4, .inl f), (5, .inl c)], [], rm g s n)) (st2 := (157, [(0, .inr (.inr 0)), (1, .inl k), (2, .inl u), (3, .inl v), (4, .inl f), (5, .inl c)], [], rm g s n)) rfl trivial ⟨⟨by omega, by omega⟩, ⟨by decide, by decide⟩⟩ (fun c_154_2 => ?_) (fun c_154_2 => ?_)
    · exact (by exfalso; omega)
    · refine pg_go 2 (L := []) (st' := (160, [(0, .inr (.inr 0)), (1, .inl k), (2, .inl u), (3, .inl v), (4, .inl f), (5, .inl c), (6, .inl 0)], [], rm g s n)) rfl trivial ?_
      exact re_chg_d hB0 hC hk hu hv hf hb (c := c) ⟨hc, by omega⟩ c.toNat f 0 (by omega) (by omega) hI (fun f2 hI2 => ih f2 _ (by omega) (by omega) hI2)
set_option maxHeartbeats 4000000 in
theorem re_chg_x {g0 : pg_H} {s n : Int} (hB0 : rm_B g0 s n) (hC : ri_C g0) {k u v : Int} (hk : 0 ≤ k ∧ k < 2 * mt_rd s) (hu : 0 ≤ u ∧ u < n) (hv : 0 ≤ v ∧ v < n) {y : Int} (hy : 0 ≤ y ∧ y < n) : ∀ (d : Nat) (g : pg_H) (f x : Int) (hd : x + (d : Int) = n) (hx : 0 ≤ x) (hf : rf [13] [15, 16] g0 g) (hb : ∀ c : Nat, c < 10 → -1 ≤ g 13 c ∧ g 13 c ≤ 9) (hI : (f = 1 ∧ mt_imp (g0 1) s n k u v x y (g 13)) ∨ (f = 0 ∧ ¬ mt_con (g0 1) s n k u v)) (hK : ∀ (g2 : pg_H) (f2 : Int), rf [13] [15, 16] g0 g2 → (∀ c : Nat, c < 10 → -1 ≤ g2 13 c ∧ g2 13 c ≤ 9) → ((f2 = 1 ∧ mt_imp (g0 1) s n k u v 0 (y + 1) (g2 13)) ∨ (f2 = 0 ∧ ¬ mt_con (g0 1) s n k u v)) → pg_Good false pm_T_isChange (fun r h' => ∃ (g' : pg_H) (z : Int), r = some (.inl z) ∧ h' = rm g' s n ∧ rf [13] [15, 16] g0 g' ∧ ((z = 1 ∧ mt_chg (g0 1) s n k u v ∧ mt_img (g0 1) s n k u v (g' 13)) ∨ (z = 0 ∧ ¬ mt_chg (g0 1) s n k u v))) (30, [(0, .inr (.inr 0)), (1, .inl k), (2, .inl u), (3, .inl v), (4, .inl f2), (5, .inl (y + 1))], [], rm g2 s n)), pg_Good false pm_T_isChange (fun r h' => ∃ (g' : pg_H) (z : Int), r = some (.inl z) ∧ h' = rm g' s n ∧ rf [13] [15, 16] g0 g' ∧ ((z = 1 ∧ mt_chg (g0 1) s n k u v ∧ mt_img (g0 1) s n k u v (g' 13)) ∨ (z = 0 ∧ ¬ mt_chg (g0 1) s n k u v))) (47, [(0, .inr (.inr 0)), (1, .inl k), (2, .inl u), (3, .inl v), (4, .inl f), (5, .inl y), (6, .inl x)], [], rm g s n) := by
  intro d
  induction d with
  | zero =>
    intro g f x hd hx hf hb hI hK
    have hB := rm_B_fr hB0 hf (by decide)
    obtain ⟨hs, hn, -⟩ := id hB
    obtain ⟨hn1, hn2⟩ := id hn
    have hr := mt_rd_or hs
    have hnn := mt_nn hn1 hn2
    have e1 : g 1 = g0 1 := hf.1 1 (by decide) (by decide)
    refine pg_br 3 (L := []) (P := pg_inR x ∧ pg_inR n) (c := n ≤ x) (st1 := (141, [(0, .inr (.inr 0)), (1, .inl k), (2, .inl u), (3, .inl v), (4, .inl f), (5, .inl y), (6, .inl x)], [], rm g s n)) (st2 := (56, [(0, .inr (.inr 0)), (1, .inl k), (2, .inl u), (3, .inl v), (4, .inl f), (5, .inl y), (6, .inl x)], [], rm g s n)) rfl trivial ⟨⟨by omega, by omega⟩, ⟨by omega, by omega⟩⟩ (fun c_53_1 => ?_) (fun c_53_1 => ?_)
    · refine pg_go 2 (L := []) (st' := (30, [(0, .inr (.inr 0)), (1, .inl k), (2, .inl u), (3, .inl v), (4, .inl f), (5, .inl (y + 1)), (6, .inl x)], [], rm g s n)) rfl trivial ?_
      refine pg_pick [0, 1, 2, 3, 4, 5] rfl ?_
      refine hK g f hf hb ?_
      rcases hI with h1 | h1
      · rw [show x = n by omega] at h1; exact Or.inl ⟨h1.1, mt_imp_row h1.2⟩
      · exact Or.inr h1
    · exact (by exfalso; omega)
  | succ d ih =>
    intro g f x hd hx hf hb hI hK
    have hB := rm_B_fr hB0 hf (by decide)
    obtain ⟨hs, hn, -⟩ := id hB
    obtain ⟨hn1, hn2⟩ := id hn
    have hr := mt_rd_or hs
    have hnn := mt_nn hn1 hn2
    have e1 : g 1 = g0 1 := hf.1 1 (by decide) (by decide)
    have hpe : n * y + x = mt_pt n x y := by unfold mt_pt; rw [Int.mul_comm]
    have hpb := mt_pt_bd hn1 hn2 (x := x) (y := y) ⟨hx, by omega⟩ hy
    have htb := mt_tg_bd (s := s) (k := k) (u := u) (v := v) (x := x) (y := y) hn1 hn2
    have hc1 := hC (mt_pt n x y).toNat (by omega)
    have hc2 := hC (mt_tg s n k u v x y).toNat (by omega)
    rw [← e1] at hc1 hc2
    have hc3 := hc1
    rw [← hpe] at hc3
    have hbc := hb (g 1 (n * y + x).toNat).toNat (by omega)
    refine pg_br 3 (L := []) (P := pg_inR x ∧ pg_inR n) (c := n ≤ x) (st1 := (141, [(0, .inr (.inr 0)), (1, .inl k), (2, .inl u), (3, .inl v), (4, .inl f), (5, .inl y), (6, .inl x)], [], rm g s n)) (st2 := (56, [(0, .inr (.inr 0)), (1, .inl k), (2, .inl u), (3, .inl v), (4, .inl f), (5, .inl y), (6, .inl x)], [], rm g s n)) rfl trivial ⟨⟨by omega, by omega⟩, ⟨by omega, by omega⟩⟩ (fun c_53_2 => ?_) (fun c_53_2 => ?_)
    · exact (by exfalso; omega)
    · refine pg_br 1 (L := []) (P := pg_inR f) (c := f = 0) (st1 := (141, [(0, .inr (.inr 0)), (1, .inl k), (2, .inl u), (3, .inl v), (4, .inl f), (5, .inl y), (6, .inl x)], [], rm g s n)) (st2 := (61, [(0, .inr (.inr 0)), (1, .inl k), (2, .inl u), (3, .inl v), (4, .inl f), (5, .inl y), (6, .inl x)], [], rm g s n)) rfl trivial ⟨by omega, by omega⟩ (fun c_58_3 => ?_) (fun c_58_3 => ?_)
      · refine pg_go 2 (L := []) (st' := (30, [(0, .inr (.inr 0)), (1, .inl k), (2, .inl u), (3, .inl v), (4, .inl f), (5, .inl (y + 1)), (6, .inl x)], [], rm g s n)) rfl trivial ?_
        refine pg_pick [0, 1, 2, 3, 4, 5] rfl ?_
        refine hK g f hf hb ?_
        rcases hI with h1 | h1
        · exfalso; omega
        · exact Or.inr h1
      · refine pg_ca 18 (L := [0 ≤ ((n * y) + x) ∧ ((n * y) + x) < (144 : Int)]) (Mc := pm_T_pointBy) (as := [.inr (.inr 0), .inl k, .inl u, .inl v, .inl x, .inl y]) (h0 := rm g s n) (pc := 93) (lv := [(0, .inr (.inr 0)), (1, .inl k), (2, .inl u), (3, .inl v), (4, .inl f), (5, .inl y), (6, .inl x), (7, .inl (g 1 (((n * y) + x).toNat)))]) (rest := [.inr (.inr 1)]) rfl ⟨by omega, by omega⟩ (re_pointBy (g := g) hB k u v x y ⟨by omega, by omega⟩ ⟨by omega, by omega⟩ ⟨by omega, by omega⟩ ⟨by omega, by omega⟩ ⟨by omega, by omega⟩) ?_
        intro r_1 h_1 e_1; rw [e_1.1, e_1.2]
        refine pg_br 7 (L := [0 ≤ (mt_tg s n k u v x y) ∧ (mt_tg s n k u v x y) < (144 : Int), 0 ≤ (g 1 (((n * y) + x).toNat)) ∧ (g 1 (((n * y) + x).toNat)) < (10 : Int)]) (P := pg_inR (g 13 ((g 1 (((n * y) + x).toNat)).toNat)) ∧ pg_inR (-1)) (c := (g 13 ((g 1 (((n * y) + x).toNat)).toNat)) = (-1)) (st1 := (119, [(0, .inr (.inr 0)), (1, .inl k), (2, .inl u), (3, .inl v), (4, .inl f), (5, .inl y), (6, .inl x), (7, .inl (g 1 (((n * y) + x).toNat))), (8, .inl (g 1 ((mt_tg s n k u v x y).toNat)))], [], rm (pg_up (pg_up g 0 15 (mt_x s k x y)) 0 16 (mt_y s k x y)) s n)) (st2 := (107, [(0, .inr (.inr 0)), (1, .inl k), (2, .inl u), (3, .inl v), (4, .inl f), (5, .inl y), (6, .inl x), (7, .inl (g 1 (((n * y) + x).toNat))), (8, .inl (g 1 ((mt_tg s n k u v x y).toNat)))], [], rm (pg_up (pg_up g 0 15 (mt_x s k x y)) 0 16 (mt_y s k x y)) s n)) rfl ⟨⟨by omega, by omega⟩, ⟨by omega, by omega⟩⟩ ⟨⟨by omega, by omega⟩, ⟨by decide, by decide⟩⟩ (fun c_104_4 => ?_) (fun c_104_4 => ?_)
        · refine pg_go 10 (L := [0 ≤ (g 1 (((n * y) + x).toNat)) ∧ (g 1 (((n * y) + x).toNat)) < (10 : Int)]) (st' := (47, [(0, .inr (.inr 0)), (1, .inl k), (2, .inl u), (3, .inl v), (4, .inl 1), (5, .inl y), (6, .inl (x + 1)), (7, .inl (g 1 (((n * y) + x).toNat))), (8, .inl (g 1 ((mt_tg s n k u v x y).toNat)))], [], pg_up (rm (pg_up (pg_up g 0 15 (mt_x s k x y)) 0 16 (mt_y s k x y)) s n) 13 ((g 1 (((n * y) + x).toNat)).toNat) (g 1 ((mt_tg s n k u v x y).toNat)))) rfl ⟨by omega, by omega⟩ ?_
          rw [rm_upq (q := 13) (by decide)]
          refine pg_pick [0, 1, 2, 3, 4, 5, 6] rfl ?_
          have hup : ∀ (G : pg_H) (z : Int) (j : Nat), pg_up G 13 j z 13 = fun q => if q = j then z else G 13 q := fun G z j => by funext q; rw [pg_up_at]
          refine ih _ _ _ (by omega) (by omega) (rf_q (rf_0 (rf_0 hf (by decide) _) (by decide) _) (by decide) (by decide) _ _) (fun c hc => ?_) ?_ hK
          · rw [pg_up_at]; split; (· omega); (· exact hb c hc)
          · refine Or.inl ⟨rfl, ?_⟩
            rcases hI with h1 | h1
            · rw [hup, e1, hpe]
              show mt_imp (g0 1) s n k u v (x + 1) y (fun q => if q = (g0 1 (mt_pt n x y).toNat).toNat then g0 1 (mt_tg s n k u v x y).toNat else g 13 q)
              refine mt_imp_put hn hC ⟨hx, by omega⟩ hy h1.2 ?_
              rw [e1, hpe] at *
              first | exact Or.inl (by assumption) | exact Or.inr (by omega)
            · exfalso; omega
        · refine pg_br 5 (L := [0 ≤ (g 1 (((n * y) + x).toNat)) ∧ (g 1 (((n * y) + x).toNat)) < (10 : Int)]) (P := pg_inR (g 13 ((g 1 (((n * y) + x).toNat)).toNat)) ∧ pg_inR (g 1 ((mt_tg s n k u v x y).toNat))) (c := ¬ (g 13 ((g 1 (((n * y) + x).toNat)).toNat)) = (g 1 ((mt_tg s n k u v x y).toNat))) (st1 := (123, [(0, .inr (.inr 0)), (1, .inl k), (2, .inl u), (3, .inl v), (4, .inl f), (5, .inl y), (6, .inl x), (7, .inl (g 1 (((n * y) + x).toNat))), (8, .inl (g 1 ((mt_tg s n k u v x y).toNat)))], [], rm (pg_up (pg_up g 0 15 (mt_x s k x y)) 0 16 (mt_y s k x y)) s n)) (st2 := (119, [(0, .inr (.inr 0)), (1, .inl k), (2, .inl u), (3, .inl v), (4, .inl f), (5, .inl y), (6, .inl x), (7, .inl (g 1 (((n * y) + x).toNat))), (8, .inl (g 1 ((mt_tg s n k u v x y).toNat)))], [], rm (pg_up (pg_up g 0 15 (mt_x s k x y)) 0 16 (mt_y s k x y)) s n)) rfl ⟨by omega, by omega⟩ ⟨⟨by omega, by omega⟩, ⟨by omega, by omega⟩⟩ (fun c_116_5 => ?_) (fun c_116_5 => ?_)
          · refine pg_go 9 (L := [0 ≤ (g 1 (((n * y) + x).toNat)) ∧ (g 1 (((n * y) + x).toNat)) < (10 : Int)]) (st' := (47, [(0, .inr (.inr 0)), (1, .inl k), (2, .inl u), (3, .inl v), (4, .inl 0), (5, .inl y), (6, .inl (x + 1)), (7, .inl (g 1 (((n * y) + x).toNat))), (8, .inl (g 1 ((mt_tg s n k u v x y).toNat)))], [], pg_up (rm (pg_up (pg_up g 0 15 (mt_x s k x y)) 0 16 (mt_y s k x y)) s n) 13 ((g 1 (((n * y) + x).toNat)).toNat) (g 1 ((mt_tg s n k u v x y).toNat)))) rfl ⟨by omega, by omega⟩ ?_
            rw [rm_upq (q := 13) (by decide)]
            refine pg_pick [0, 1, 2, 3, 4, 5, 6] rfl ?_
            have hup : ∀ (G : pg_H) (z : Int) (j : Nat), pg_up G 13 j z 13 = fun q => if q = j then z else G 13 q := fun G z j => by funext q; rw [pg_up_at]
            refine ih _ _ _ (by omega) (by omega) (rf_q (rf_0 (rf_0 hf (by decide) _) (by decide) _) (by decide) (by decide) _ _) (fun c hc => ?_) ?_ hK
            · rw [pg_up_at]; split; (· omega); (· exact hb c hc)
            · refine Or.inr ⟨rfl, ?_⟩
              rcases hI with h1 | h1
              · rw [e1, hpe] at *
                exact mt_imp_bad hn hC ⟨hx, by omega⟩ hy h1.2 (by omega) (by omega)
              · exact h1.2
          · refine pg_go 10 (L := [0 ≤ (g 1 (((n * y) + x).toNat)) ∧ (g 1 (((n * y) + x).toNat)) < (10 : Int)]) (st' := (47, [(0, .inr (.inr 0)), (1, .inl k), (2, .inl u), (3, .inl v), (4, .inl 1), (5, .inl y), (6, .inl (x + 1)), (7, .inl (g 1 (((n * y) + x).toNat))), (8, .inl (g 1 ((mt_tg s n k u v x y).toNat)))], [], pg_up (rm (pg_up (pg_up g 0 15 (mt_x s k x y)) 0 16 (mt_y s k x y)) s n) 13 ((g 1 (((n * y) + x).toNat)).toNat) (g 1 ((mt_tg s n k u v x y).toNat)))) rfl ⟨by omega, by omega⟩ ?_
            rw [rm_upq (q := 13) (by decide)]
            refine pg_pick [0, 1, 2, 3, 4, 5, 6] rfl ?_
            have hup : ∀ (G : pg_H) (z : Int) (j : Nat), pg_up G 13 j z 13 = fun q => if q = j then z else G 13 q := fun G z j => by funext q; rw [pg_up_at]
            refine ih _ _ _ (by omega) (by omega) (rf_q (rf_0 (rf_0 hf (by decide) _) (by decide) _) (by decide) (by decide) _ _) (fun c hc => ?_) ?_ hK
            · rw [pg_up_at]; split; (· omega); (· exact hb c hc)
            · refine Or.inl ⟨rfl, ?_⟩
              rcases hI with h1 | h1
              · rw [hup, e1, hpe]
                show mt_imp (g0 1) s n k u v (x + 1) y (fun q => if q = (g0 1 (mt_pt n x y).toNat).toNat then g0 1 (mt_tg s n k u v x y).toNat else g 13 q)
                refine mt_imp_put hn hC ⟨hx, by omega⟩ hy h1.2 ?_
                rw [e1, hpe] at *
                first | exact Or.inl (by assumption) | exact Or.inr (by omega)
              · exfalso; omega
theorem re_chg_y {g0 : pg_H} {s n : Int} (hB0 : rm_B g0 s n) (hC : ri_C g0) {k u v : Int} (hk : 0 ≤ k ∧ k < 2 * mt_rd s) (hu : 0 ≤ u ∧ u < n) (hv : 0 ≤ v ∧ v < n) : ∀ (d : Nat) (g : pg_H) (f y : Int) (hd : y + (d : Int) = n) (hy : 0 ≤ y) (hf : rf [13] [15, 16] g0 g) (hb : ∀ c : Nat, c < 10 → -1 ≤ g 13 c ∧ g 13 c ≤ 9) (hI : (f = 1 ∧ mt_imp (g0 1) s n k u v 0 y (g 13)) ∨ (f = 0 ∧ ¬ mt_con (g0 1) s n k u v)), pg_Good false pm_T_isChange (fun r h' => ∃ (g' : pg_H) (z : Int), r = some (.inl z) ∧ h' = rm g' s n ∧ rf [13] [15, 16] g0 g' ∧ ((z = 1 ∧ mt_chg (g0 1) s n k u v ∧ mt_img (g0 1) s n k u v (g' 13)) ∨ (z = 0 ∧ ¬ mt_chg (g0 1) s n k u v))) (30, [(0, .inr (.inr 0)), (1, .inl k), (2, .inl u), (3, .inl v), (4, .inl f), (5, .inl y)], [], rm g s n) := by
  intro d
  induction d with
  | zero =>
    intro g f y hd hy hf hb hI
    have hB := rm_B_fr hB0 hf (by decide)
    obtain ⟨hs, hn, -⟩ := id hB
    obtain ⟨hn1, hn2⟩ := id hn
    have hr := mt_rd_or hs
    have hnn := mt_nn hn1 hn2
    have e1 : g 1 = g0 1 := hf.1 1 (by decide) (by decide)
    refine pg_br 3 (L := []) (P := pg_inR y ∧ pg_inR n) (c := n ≤ y) (st1 := (147, [(0, .inr (.inr 0)), (1, .inl k), (2, .inl u), (3, .inl v), (4, .inl f), (5, .inl y)], [], rm g s n)) (st2 := (39, [(0, .inr (.inr 0)), (1, .inl k), (2, .inl u), (3, .inl v), (4, .inl f), (5, .inl y)], [], rm g s n)) rfl trivial ⟨⟨by omega, by omega⟩, ⟨by omega, by omega⟩⟩ (fun c_36_1 => ?_) (fun c_36_1 => ?_)
    · refine pg_go 2 (L := []) (st' := (150, [(0, .inr (.inr 0)), (1, .inl k), (2, .inl u), (3, .inl v), (4, .inl f), (5, .inl 0)], [], rm g s n)) rfl trivial ?_
      refine re_chg_c hB0 hC hk hu hv hf hb 10 f 0 (by omega) (by omega) ?_
      rcases hI with h1 | h1
      · rw [show y = n by omega] at h1; have h2 := mt_imp_all h1.2; exact Or.inl ⟨h1.1, h2.1, h2.2, fun a b p1 p2 p3 => by omega⟩
      · exact Or.inr ⟨h1.1, fun hz => h1.2 hz.1⟩
    · exact (by exfalso; omega)
  | succ d ih =>
    intro g f y hd hy hf hb hI
    have hB := rm_B_fr hB0 hf (by decide)
    obtain ⟨hs, hn, -⟩ := id hB
    obtain ⟨hn1, hn2⟩ := id hn
    have hr := mt_rd_or hs
    have hnn := mt_nn hn1 hn2
    have e1 : g 1 = g0 1 := hf.1 1 (by decide) (by decide)
    refine pg_br 3 (L := []) (P := pg_inR y ∧ pg_inR n) (c := n ≤ y) (st1 := (147, [(0, .inr (.inr 0)), (1, .inl k), (2, .inl u), (3, .inl v), (4, .inl f), (5, .inl y)], [], rm g s n)) (st2 := (39, [(0, .inr (.inr 0)), (1, .inl k), (2, .inl u), (3, .inl v), (4, .inl f), (5, .inl y)], [], rm g s n)) rfl trivial ⟨⟨by omega, by omega⟩, ⟨by omega, by omega⟩⟩ (fun c_36_2 => ?_) (fun c_36_2 => ?_)
    · exact (by exfalso; omega)
    · refine pg_br 1 (L := []) (P := pg_inR f) (c := f = 0) (st1 := (147, [(0, .inr (.inr 0)), (1, .inl k), (2, .inl u), (3, .inl v), (4, .inl f), (5, .inl y)], [], rm g s n)) (st2 := (44, [(0, .inr (.inr 0)), (1, .inl k), (2, .inl u), (3, .inl v), (4, .inl f), (5, .inl y)], [], rm g s n)) rfl trivial ⟨by omega, by omega⟩ (fun c_41_3 => ?_) (fun c_41_3 => ?_)
      · refine pg_go 2 (L := []) (st' := (150, [(0, .inr (.inr 0)), (1, .inl k), (2, .inl u), (3, .inl v), (4, .inl f), (5, .inl 0)], [], rm g s n)) rfl trivial ?_
        refine re_chg_c hB0 hC hk hu hv hf hb 10 f 0 (by omega) (by omega) ?_
        rcases hI with h1 | h1
        · exfalso; omega
        · exact Or.inr ⟨h1.1, fun hz => h1.2 hz.1⟩
      · refine pg_go 2 (L := []) (st' := (47, [(0, .inr (.inr 0)), (1, .inl k), (2, .inl u), (3, .inl v), (4, .inl f), (5, .inl y), (6, .inl 0)], [], rm g s n)) rfl trivial ?_
        exact re_chg_x hB0 hC hk hu hv (y := y) ⟨hy, by omega⟩ n.toNat g f 0 (by omega) (by omega) hf hb hI (fun g2 f2 hf2 hb2 hI2 => ih g2 f2 _ (by omega) (by omega) hf2 hb2 hI2)
theorem re_chg_0 {g0 : pg_H} {s n : Int} (hB0 : rm_B g0 s n) (hC : ri_C g0) {k u v : Int} (hk : 0 ≤ k ∧ k < 2 * mt_rd s) (hu : 0 ≤ u ∧ u < n) (hv : 0 ≤ v ∧ v < n) : ∀ (d : Nat) (g : pg_H) (c : Int) (hd : c + (d : Int) = 10) (hc : 0 ≤ c) (hf : rf [13] [15, 16] g0 g) (hb : ∀ j : Nat, (j : Int) < c → g 13 j = -1), pg_Good false pm_T_isChange (fun r h' => ∃ (g' : pg_H) (z : Int), r = some (.inl z) ∧ h' = rm g' s n ∧ rf [13] [15, 16] g0 g' ∧ ((z = 1 ∧ mt_chg (g0 1) s n k u v ∧ mt_img (g0 1) s n k u v (g' 13)) ∨ (z = 0 ∧ ¬ mt_chg (g0 1) s n k u v))) (3, [(0, .inr (.inr 0)), (1, .inl k), (2, .inl u), (3, .inl v), (4, .inl c)], [], rm g s n) := by
  intro d
  induction d with
  | zero =>
    intro g c hd hc hf hb
    have hB := rm_B_fr hB0 hf (by decide)
    obtain ⟨hs, hn, -⟩ := id hB
    obtain ⟨hn1, hn2⟩ := id hn
    have hr := mt_rd_or hs
    have hnn := mt_nn hn1 hn2
    have e1 : g 1 = g0 1 := hf.1 1 (by decide) (by decide)
    refine pg_br 2 (L := []) (P := pg_inR c ∧ pg_inR 10) (c := 10 ≤ c) (st1 := (24, [(0, .inr (.inr 0)), (1, .inl k), (2, .inl u), (3, .inl v), (4, .inl c)], [], rm g s n)) (st2 := (10, [(0, .inr (.inr 0)), (1, .inl k), (2, .inl u), (3, .inl v), (4, .inl c)], [], rm g s n)) rfl trivial ⟨⟨by omega, by omega⟩, ⟨by decide, by decide⟩⟩ (fun c_7_1 => ?_) (fun c_7_1 => ?_)
    · refine pg_go 4 (L := []) (st' := (30, [(0, .inr (.inr 0)), (1, .inl k), (2, .inl u), (3, .inl v), (4, .inl 1), (5, .inl 0)], [], rm g s n)) rfl trivial ?_
      have hz : ∀ j : Nat, j < 10 → g 13 j = -1 := fun j hj => hb j (by omega)
      exact re_chg_y hB0 hC hk hu hv n.toNat g 1 0 (by omega) (by omega) hf (fun c hc => by rw [hz c hc]; omega) (Or.inl ⟨rfl, mt_imp_0 hz⟩)
    · exact (by exfalso; omega)
  | succ d ih =>
    intro g c hd hc hf hb
    have hB := rm_B_fr hB0 hf (by decide)
    obtain ⟨hs, hn, -⟩ := id hB
    obtain ⟨hn1, hn2⟩ := id hn
    have hr := mt_rd_or hs
    have hnn := mt_nn hn1 hn2
    have e1 : g 1 = g0 1 := hf.1 1 (by decide) (by decide)
    refine pg_br 2 (L := []) (P := pg_inR c ∧ pg_inR 10) (c := 10 ≤ c) (st1 := (24, [(0, .inr (.inr 0)), (1, .inl k), (2, .inl u), (3, .inl v), (4, .inl c)], [], rm g s n)) (st2 := (10, [(0, .inr (.inr 0)), (1, .inl k), (2, .inl u), (3, .inl v), (4, .inl c)], [], rm g s n)) rfl trivial ⟨⟨by omega, by omega⟩, ⟨by decide, by decide⟩⟩ (fun c_7_2 => ?_) (fun c_7_2 => ?_)
    · exact (by exfalso; omega)
    · refine pg_go 7 (L := [0 ≤ c ∧ c < (10 : Int)]) (st' := (3, [(0, .inr (.inr 0)), (1, .inl k), (2, .inl u), (3, .inl v), (4, .inl (c + 1))], [], pg_up (rm g s n) 13 c.toNat (-1))) rfl ⟨by omega, by omega⟩ ?_
      rw [rm_upq (q := 13) (by decide)]
      refine ih _ _ (by omega) (by omega) (rf_q hf (by decide) (by decide) _ _) (fun j hj => ?_)
      rw [pg_up_at]
      split
      · rfl
      · exact hb j (by omega)
theorem re_isChange {g : pg_H} {s n : Int} (hB : rm_B g s n) (hC : ri_C g) (k u v : Int) (hk : 0 ≤ k ∧ k < 2 * mt_rd s) (hu : 0 ≤ u ∧ u < n) (hv : 0 ≤ v ∧ v < n) : pg_Sem false pm_T_isChange [.inr (.inr 0), .inl k, .inl u, .inl v] (rm g s n) (fun r h' => ∃ (g' : pg_H) (z : Int), r = some (.inl z) ∧ h' = rm g' s n ∧ rf [13] [15, 16] g g' ∧ ((z = 1 ∧ mt_chg (g 1) s n k u v ∧ mt_img (g 1) s n k u v (g' 13)) ∨ (z = 0 ∧ ¬ mt_chg (g 1) s n k u v))) := by
  obtain ⟨hs, hn, hT⟩ := id hB
  obtain ⟨hn1, hn2⟩ := id hn
  have hr := mt_rd_or hs
  refine pg_Sem_of pm_T_isChange_f rfl ?_
  refine pg_go 2 (L := []) (st' := (3, [(0, .inr (.inr 0)), (1, .inl k), (2, .inl u), (3, .inl v), (4, .inl 0)], [], rm g s n)) rfl trivial ?_
  exact re_chg_0 hB hC hk hu hv 10 g 0 (by omega) (by omega) (rf_rf _ _ _) (fun j hj => by omega)
