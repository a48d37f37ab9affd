/-! Picture: what a move does to the colours -/
noncomputable def pg_b (P : Prop) : Int := @ite Int P (Classical.propDecidable P) 1 0
theorem pg_b_t {P : Prop} (h : P) : pg_b P = 1 := if_pos h
theorem pg_b_f {P : Prop} (h : ¬ P) : pg_b P = 0 := if_neg h
theorem pg_b_or (P : Prop) : (P ∧ pg_b P = 1) ∨ (¬ P ∧ pg_b P = 0) := by
  rcases Classical.em P with h | h
  · exact Or.inl ⟨h, pg_b_t h⟩
  · exact Or.inr ⟨h, pg_b_f h⟩
theorem pg_b_iff {P R : Prop} (h : P ↔ R) : pg_b P = pg_b R := by
  rcases pg_b_or P with ⟨h1, h2⟩ | ⟨h1, h2⟩
  · rw [h2, pg_b_t (h.mp h1)]
  · rw [h2, pg_b_f (fun z => h1 (h.mpr z))]
/-- a SYMMETRY -/
def mt_sym (col : Nat → Int) (s n k u v : Int) : Prop := ∀ x y : Int, 0 ≤ x → x < n → 0 ≤ y → y < n → col (mt_pt n x y).toNat = col (mt_tg s n k u v x y).toNat
/-- all points of one COLOUR go to points of one COLOUR -/
def mt_con (col : Nat → Int) (s n k u v : Int) : Prop := ∀ x y x' y' : Int, 0 ≤ x → x < n → 0 ≤ y → y < n → 0 ≤ x' → x' < n → 0 ≤ y' → y' < n → col (mt_pt n x y).toNat = col (mt_pt n x' y').toNat → col (mt_tg s n k u v x y).toNat = col (mt_tg s n k u v x' y').toNat
/-- to which COLOUR each one goes: -1 where no point has it -/
def mt_img (col : Nat → Int) (s n k u v : Int) (im : Nat → Int) : Prop := (∀ x y : Int, 0 ≤ x → x < n → 0 ≤ y → y < n → im (col (mt_pt n x y).toNat).toNat = col (mt_tg s n k u v x y).toNat) ∧ ∀ c : Nat, c < 10 → (∀ x y : Int, 0 ≤ x → x < n → 0 ≤ y → y < n → col (mt_pt n x y).toNat ≠ c) → im c = -1
def cp_C (h : pg_H) : Prop := ∀ p : Nat, p < 144 → 0 ≤ h 7 p ∧ h 7 p ≤ 9
theorem cp_keeps_x {h : pg_H} {s n : Int} (hB : cm_B h s n) (hC : cp_C h) {k u v : Int} (hk : 0 ≤ k ∧ k < 2 * mt_rd s) (hu : -1000 ≤ u ∧ u ≤ 1000) (hv : -1000 ≤ v ∧ v ≤ 1000) {y : Int} (hy : 0 ≤ y ∧ y < n) : ∀ (d : Nat) (x : Int) (hd : x + (d : Int) = n) (hx : 0 ≤ x) (hrow : ∀ a : Int, 0 ≤ a → a < x → h 7 (mt_pt n a y).toNat = h 7 (mt_tg s n k u v a y).toNat) (hK : (∀ a : Int, 0 ≤ a → a < n → h 7 (mt_pt n a y).toNat = h 7 (mt_tg s n k u v a y).toNat) → pg_Good true pm_C_keeps (fun r h' => r = some (.inl (pg_b (mt_sym (h 7) s n k u v))) ∧ h' = h) (72, [(0, .inr (.inr 6)), (1, .inl k), (2, .inl u), (3, .inl v), (4, .inl (h 4 2)), (5, .inl y)], [], h)), pg_Good true pm_C_keeps (fun r h' => r = some (.inl (pg_b (mt_sym (h 7) s n k u v))) ∧ h' = h) (22, [(0, .inr (.inr 6)), (1, .inl k), (2, .inl u), (3, .inl v), (4, .inl (h 4 2)), (5, .inl y), (6, .inl x)], [], h) := by
  intro d
  induction d with
  | zero =>
    intro x hd hx hrow hK
    obtain ⟨hs, ⟨hn1, hn2⟩, e1, e2, e3, e5⟩ := id hB
    have hr := mt_rd_or hs
    refine pg_br 2 (L := []) (P := pg_inR x ∧ pg_inR (h 4 2)) (c := (h 4 2) ≤ x) (st1 := (72, [(0, .inr (.inr 6)), (1, .inl k), (2, .inl u), (3, .inl v), (4, .inl (h 4 2)), (5, .inl y), (6, .inl x)], [], h)) (st2 := (29, [(0, .inr (.inr 6)), (1, .inl k), (2, .inl u), (3, .inl v), (4, .inl (h 4 2)), (5, .inl y), (6, .inl x)], [], h)) rfl trivial ⟨⟨by omega, by omega⟩, ⟨by omega, by omega⟩⟩ (fun c_26_1 => ?_) (fun c_26_1 => ?_)
    · refine pg_pick [0, 1, 2, 3, 4, 5] rfl ?_
      exact hK (fun a h1 h2 => hrow a h1 (by omega))
    · exact (by exfalso; omega)
  | succ d ih =>
    intro x hd hx hrow hK
    obtain ⟨hs, ⟨hn1, hn2⟩, e1, e2, e3, e5⟩ := id hB
    have hr := mt_rd_or hs
    have hp : 0 ≤ y * h 4 2 + x ∧ y * h 4 2 + x < 144 := by
      have := mt_pt_bd hn1 hn2 (x := x) (y := y) ⟨by omega, by omega⟩ ⟨by omega, by omega⟩
      rw [e2]; unfold mt_pt at this; omega
    have ht := mt_tg_bd (s := s) (k := k) (u := u) (v := v) (x := x) (y := y) hn1 hn2
    have hc1 := hC (y * h 4 2 + x).toNat (by omega)
    have hc2 := hC (mt_tg s n k u v x y).toNat (by omega)
    have hpe : mt_pt n x y = y * h 4 2 + x := by rw [e2]; rfl
    refine pg_br 2 (L := []) (P := pg_inR x ∧ pg_inR (h 4 2)) (c := (h 4 2) ≤ x) (st1 := (72, [(0, .inr (.inr 6)), (1, .inl k), (2, .inl u), (3, .inl v), (4, .inl (h 4 2)), (5, .inl y), (6, .inl x)], [], h)) (st2 := (29, [(0, .inr (.inr 6)), (1, .inl k), (2, .inl u), (3, .inl v), (4, .inl (h 4 2)), (5, .inl y), (6, .inl x)], [], h)) rfl trivial ⟨⟨by omega, by omega⟩, ⟨by omega, by omega⟩⟩ (fun c_26_2 => ?_) (fun c_26_2 => ?_)
    · exact (by exfalso; omega)
    · refine pg_ca 17 (L := [0 ≤ ((y * (h 4 2)) + x) ∧ ((y * (h 4 2)) + x) < (144 : Int)]) (Mc := pm_M_target) (as := [.inr (.inr 4), .inl k, .inl u, .inl v, .inl x, .inl y]) (h0 := h) (pc := 60) (lv := [(0, .inr (.inr 6)), (1, .inl k), (2, .inl u), (3, .inl v), (4, .inl (h 4 2)), (5, .inl y), (6, .inl x)]) (rest := [.inr (.inr 7), .inl (h 7 (((y * (h 4 2)) + x).toNat))]) rfl ⟨by omega, by omega⟩ (cm_target hB k u v x y ⟨by omega, by omega⟩ ⟨by omega, by omega⟩ ⟨by omega, by omega⟩ ⟨by omega, by omega⟩ ⟨by omega, by omega⟩) ?_
      intro r_1 h_1 e_1; rw [e_1.1, e_1.2]
      refine pg_br 1 (L := [0 ≤ (mt_tg s n k u v x y) ∧ (mt_tg s n k u v x y) < (144 : Int)]) (P := pg_inR (h 7 (((y * (h 4 2)) + x).toNat)) ∧ pg_inR (h 7 ((mt_tg s n k u v x y).toNat))) (c := (h 7 (((y * (h 4 2)) + x).toNat)) = (h 7 ((mt_tg s n k u v x y).toNat))) (st1 := (66, [(0, .inr (.inr 6)), (1, .inl k), (2, .inl u), (3, .inl v), (4, .inl (h 4 2)), (5, .inl y), (6, .inl x)], [], h)) (st2 := (64, [(0, .inr (.inr 6)), (1, .inl k), (2, .inl u), (3, .inl v), (4, .inl (h 4 2)), (5, .inl y), (6, .inl x)], [], h)) rfl ⟨by omega, by omega⟩ ⟨⟨by omega, by omega⟩, ⟨by omega, by omega⟩⟩ (fun c_61_3 => ?_) (fun c_61_3 => ?_)
      · refine pg_go 2 (L := []) (st' := (22, [(0, .inr (.inr 6)), (1, .inl k), (2, .inl u), (3, .inl v), (4, .inl (h 4 2)), (5, .inl y), (6, .inl (x + 1))], [], h)) rfl trivial ?_
        refine ih _ (by omega) (by omega) (fun a h1 h2 => ?_) hK
        rcases (show a < x ∨ a = x by omega) with h3 | rfl
        · exact hrow a h1 h3
        · rw [hpe]; assumption
      · refine pg_re 1 (L := [0 = 0 ∨ 0 = 1]) (r := some (.inl 0)) (h0 := h) rfl (Or.inl rfl) ?_
        refine ⟨?_, rfl⟩
        rw [pg_b_f]
        intro hsy
        have := hsy x y (by omega) (by omega) (by omega) (by omega)
        rw [hpe] at this
        contradiction
theorem cp_keeps_y {h : pg_H} {s n : Int} (hB : cm_B h s n) (hC : cp_C h) {k u v : Int} (hk : 0 ≤ k ∧ k < 2 * mt_rd s) (hu : -1000 ≤ u ∧ u ≤ 1000) (hv : -1000 ≤ v ∧ v ≤ 1000) : ∀ (d : Nat) (y : Int) (hd : y + (d : Int) = n) (hy : 0 ≤ y) (hrow : ∀ a b : Int, 0 ≤ a → a < n → 0 ≤ b → b < y → h 7 (mt_pt n a b).toNat = h 7 (mt_tg s n k u v a b).toNat), pg_Good true pm_C_keeps (fun r h' => r = some (.inl (pg_b (mt_sym (h 7) s n k u v))) ∧ h' = h) (12, [(0, .inr (.inr 6)), (1, .inl k), (2, .inl u), (3, .inl v), (4, .inl (h 4 2)), (5, .inl y)], [], h) := by
  intro d
  induction d with
  | zero =>
    intro y hd hy hrow
    obtain ⟨hs, ⟨hn1, hn2⟩, e1, e2, e3, e5⟩ := id hB
    have hr := mt_rd_or hs
    refine pg_br 2 (L := []) (P := pg_inR y ∧ pg_inR (h 4 2)) (c := (h 4 2) ≤ y) (st1 := (78, [(0, .inr (.inr 6)), (1, .inl k), (2, .inl u), (3, .inl v), (4, .inl (h 4 2)), (5, .inl y)], [], h)) (st2 := (19, [(0, .inr (.inr 6)), (1, .inl k), (2, .inl u), (3, .inl v), (4, .inl (h 4 2)), (5, .inl y)], [], h)) rfl trivial ⟨⟨by omega, by omega⟩, ⟨by omega, by omega⟩⟩ (fun c_16_1 => ?_) (fun c_16_1 => ?_)
    · refine pg_re 1 (L := [1 = 0 ∨ 1 = 1]) (r := some (.inl 1)) (h0 := h) rfl (Or.inr rfl) ?_
      refine ⟨?_, rfl⟩
      rw [pg_b_t]
      intro a b h1 h2 h3 h4
      exact hrow a b h1 h2 h3 (by omega)
    · exact (by exfalso; omega)
  | succ d ih =>
    intro y hd hy hrow
    obtain ⟨hs, ⟨hn1, hn2⟩, e1, e2, e3, e5⟩ := id hB
    have hr := mt_rd_or hs
    refine pg_br 2 (L := []) (P := pg_inR y ∧ pg_inR (h 4 2)) (c := (h 4 2) ≤ y) (st1 := (78, [(0, .inr (.inr 6)), (1, .inl k), (2, .inl u), (3, .inl v), (4, .inl (h 4 2)), (5, .inl y)], [], h)) (st2 := (19, [(0, .inr (.inr 6)), (1, .inl k), (2, .inl u), (3, .inl v), (4, .inl (h 4 2)), (5, .inl y)], [], h)) rfl trivial ⟨⟨by omega, by omega⟩, ⟨by omega, by omega⟩⟩ (fun c_16_2 => ?_) (fun c_16_2 => ?_)
    · exact (by exfalso; omega)
    · refine pg_go 2 (L := []) (st' := (22, [(0, .inr (.inr 6)), (1, .inl k), (2, .inl u), (3, .inl v), (4, .inl (h 4 2)), (5, .inl y), (6, .inl 0)], [], h)) rfl trivial ?_
      refine cp_keeps_x hB hC hk hu hv (y := y) ⟨by omega, by omega⟩ n.toNat _ (by omega) (by omega) (fun a h1 h2 => by omega) (fun hr2 => ?_)
      refine pg_go 2 (L := []) (st' := (12, [(0, .inr (.inr 6)), (1, .inl k), (2, .inl u), (3, .inl v), (4, .inl (h 4 2)), (5, .inl (y + 1))], [], h)) rfl trivial ?_
      refine ih _ (by omega) (by omega) (fun a b h1 h2 h3 h4 => ?_)
      rcases (show b < y ∨ b = y by omega) with h5 | rfl
      · exact hrow a b h1 h2 h3 h5
      · exact hr2 a h1 h2
theorem cp_keeps {h : pg_H} {s n : Int} (hB : cm_B h s n) (hC : cp_C h) {k u v : Int} (hk : 0 ≤ k ∧ k < 2 * mt_rd s) (hu : -1000 ≤ u ∧ u ≤ 1000) (hv : -1000 ≤ v ∧ v ≤ 1000) : pg_Sem true pm_C_keeps [.inr (.inr 6), .inl k, .inl u, .inl v] h (fun r h' => r = some (.inl (pg_b (mt_sym (h 7) s n k u v))) ∧ h' = h) := by
  obtain ⟨hs, ⟨hn1, hn2⟩, e1, e2, e3, e5⟩ := id hB
  have hr := mt_rd_or hs
  refine pg_Sem_of pm_C_keeps_f rfl ?_
  refine pg_go 6 (L := []) (st' := (12, [(0, .inr (.inr 6)), (1, .inl k), (2, .inl u), (3, .inl v), (4, .inl (h 4 2)), (5, .inl 0)], [], h)) rfl trivial ?_
  exact cp_keeps_y hB hC hk hu hv n.toNat _ (by omega) (by omega) (fun a b h1 h2 h3 h4 => by omega)
