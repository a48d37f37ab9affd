/-! PointClasses -/
/-- the points that the class marks from a point: by LINEAR k and shifts -/
def po_T (h : pg_H) (s n p : Int) (q : Nat) : Prop := ∃ k : Int, (0 ≤ k ∧ k < 2 * mt_rd s) ∧ h 11 k.toNat ≠ -1 ∧ ∃ a b : Int, (0 ≤ a ∧ a < n / h 10 4) ∧ (0 ≤ b ∧ b < n / h 10 6) ∧ (q : Int) = mt_pt n ((mt_x s k (p % n) (p / n) + h 11 k.toNat + a * h 10 4 + b * h 10 5) % n) ((mt_y s k (p % n) (p / n) + h 12 k.toNat + b * h 10 6) % n)
/-- what one call of markShifted marks -/
def po_S (h : pg_H) (n x y : Int) (q : Nat) (a0 b0 : Int) : Prop := ∃ a b : Int, (0 ≤ a ∧ a < n / h 10 4) ∧ (0 ≤ b) ∧ (b < b0 ∨ (b = b0 ∧ a < a0)) ∧ (q : Int) = mt_pt n ((x + a * h 10 4 + b * h 10 5) % n) ((y + b * h 10 6) % n)
theorem pg_m12 {x y : Int} (hx : 0 ≤ x ∧ x ≤ 12) (hy : 0 ≤ y ∧ y ≤ 12) : 0 ≤ x * y ∧ x * y ≤ 144 := by
  have := pg_mul12 (q := x) (b := y) (m := 12) (by omega) hy
  exact ⟨Int.mul_nonneg hx.1 hy.1, by omega⟩
theorem pg_div12 {n a : Int} (hn : 1 ≤ n ∧ n ≤ 12) (ha : 1 ≤ a) : 0 ≤ n / a ∧ n / a ≤ 12 := by
  have h1 := Int.ediv_nonneg (show 0 ≤ n by omega) (show 0 ≤ a by omega)
  have h2 := Int.ediv_le_self a (show 0 ≤ n by omega)
  omega
theorem po_S_s {h : pg_H} {n x y : Int} {q : Nat} {a b : Int} (ha : 0 ≤ a ∧ a < n / h 10 4) (hb : 0 ≤ b) : po_S h n x y q (a + 1) b ↔ (po_S h n x y q a b ∨ (q : Int) = mt_pt n ((x + a * h 10 4 + b * h 10 5) % n) ((y + b * h 10 6) % n)) := by
  unfold po_S
  constructor
  · rintro ⟨a', b', h1, h2, h3, h4⟩
    rcases (show (b' < b ∨ (b' = b ∧ a' < a)) ∨ (b' = b ∧ a' = a) by omega) with h5 | ⟨rfl, rfl⟩
    · exact Or.inl ⟨a', b', h1, h2, h5, h4⟩
    · exact Or.inr h4
  · rintro (⟨a', b', h1, h2, h3, h4⟩ | h4)
    · exact ⟨a', b', h1, h2, by omega, h4⟩
    · exact ⟨a, b, ha, hb, by omega, h4⟩
theorem po_S_r {h : pg_H} {n x y : Int} {q : Nat} {b : Int} : po_S h n x y q 0 (b + 1) ↔ po_S h n x y q (n / h 10 4) b := by
  unfold po_S
  constructor
  · rintro ⟨a', b', h1, h2, h3, h4⟩
    exact ⟨a', b', h1, h2, by omega, h4⟩
  · rintro ⟨a', b', h1, h2, h3, h4⟩
    exact ⟨a', b', h1, h2, by omega, h4⟩
set_option maxHeartbeats 4000000 in
theorem po_ms_a {h : pg_H} {s n : Int} (hB : cm_B h s n) (hR : sy_R h s) {x y f : Int} (hx : -1000 ≤ x ∧ x ≤ 1000) (hy : -1000 ≤ y ∧ y ≤ 1000) {b : Int} (hb : 0 ≤ b ∧ b < n / h 10 6) : ∀ (d : Nat) (g : pg_H) (a : Int) (hd : a + (d : Int) = n / h 10 4) (ha : 0 ≤ a) (hf : pg_fr [14] h g) (hI : ∀ q : Nat, (po_S h n x y q a b → g 14 q = f) ∧ (¬ po_S h n x y q a b → g 14 q = h 14 q)) (hK : ∀ g2 : pg_H, pg_fr [14] h g2 → (∀ q : Nat, (po_S h n x y q (n / h 10 4) b → g2 14 q = f) ∧ (¬ po_S h n x y q (n / h 10 4) b → g2 14 q = h 14 q)) → pg_Good true pm_O_markShifted (fun r h' => r = none ∧ pg_fr [14] h h' ∧ ∀ q : Nat, (po_S h n x y q 0 (n / h 10 6) → h' 14 q = f) ∧ (¬ po_S h n x y q 0 (n / h 10 6) → h' 14 q = h 14 q)) (142, [(0, .inr (.inr 13)), (1, .inl x), (2, .inl y), (3, .inl f), (4, .inl (n / h 10 6)), (5, .inl (n / h 10 4)), (6, .inl b)], [], g2)), pg_Good true pm_O_markShifted (fun r h' => r = none ∧ pg_fr [14] h h' ∧ ∀ q : Nat, (po_S h n x y q 0 (n / h 10 6) → h' 14 q = f) ∧ (¬ po_S h n x y q 0 (n / h 10 6) → h' 14 q = h 14 q)) (77, [(0, .inr (.inr 13)), (1, .inl x), (2, .inl y), (3, .inl f), (4, .inl (n / h 10 6)), (5, .inl (n / h 10 4)), (6, .inl b), (7, .inl a)], [], g) := by
  intro d
  induction d with
  | zero =>
    intro g a hd ha hf hI hK
    obtain ⟨hs, ⟨hn1, hn2⟩, e1, e2, e3, e5⟩ := id hB
    have hr := mt_rd_or hs
    obtain ⟨ra, rb, rc, rl, rk⟩ := id hR
    have da := pg_div12 ⟨hn1, hn2⟩ ra.1
    have dc := pg_div12 ⟨hn1, hn2⟩ rc.1
    have hBg := cm_B_fr hB hf (by decide) (by decide)
    have g10 : g 10 = h 10 := hf 10 (by decide)
    have g104 : g 10 4 = h 10 4 := by rw [g10]
    have g105 : g 10 5 = h 10 5 := by rw [g10]
    have g106 : g 10 6 = h 10 6 := by rw [g10]
    refine pg_br 2 (L := []) (P := pg_inR a ∧ pg_inR (n / h 10 4)) (c := (n / h 10 4) ≤ a) (st1 := (142, [(0, .inr (.inr 13)), (1, .inl x), (2, .inl y), (3, .inl f), (4, .inl (n / h 10 6)), (5, .inl (n / h 10 4)), (6, .inl b), (7, .inl a)], [], g)) (st2 := (84, [(0, .inr (.inr 13)), (1, .inl x), (2, .inl y), (3, .inl f), (4, .inl (n / h 10 6)), (5, .inl (n / h 10 4)), (6, .inl b), (7, .inl a)], [], g)) rfl trivial ⟨⟨by omega, by omega⟩, ⟨by omega, by omega⟩⟩ (fun c_81_1 => ?_) (fun c_81_1 => ?_)
    · refine pg_pick [0, 1, 2, 3, 4, 5, 6] rfl ?_
      exact hK g hf (by rw [show n / h 10 4 = a by omega]; exact hI)
    · exact (by exfalso; omega)
  | succ d ih =>
    intro g a hd ha hf hI hK
    obtain ⟨hs, ⟨hn1, hn2⟩, e1, e2, e3, e5⟩ := id hB
    have hr := mt_rd_or hs
    obtain ⟨ra, rb, rc, rl, rk⟩ := id hR
    have da := pg_div12 ⟨hn1, hn2⟩ ra.1
    have dc := pg_div12 ⟨hn1, hn2⟩ rc.1
    have hBg := cm_B_fr hB hf (by decide) (by decide)
    have g10 : g 10 = h 10 := hf 10 (by decide)
    have g104 : g 10 4 = h 10 4 := by rw [g10]
    have g105 : g 10 5 = h 10 5 := by rw [g10]
    have g106 : g 10 6 = h 10 6 := by rw [g10]
    have m1 := pg_m12 (x := a) (y := h 10 4) ⟨by omega, by omega⟩ ⟨by omega, by omega⟩
    have m2 := pg_m12 (x := b) (y := h 10 5) ⟨by omega, by omega⟩ ⟨by omega, by omega⟩
    have m3 := pg_m12 (x := b) (y := h 10 6) ⟨by omega, by omega⟩ ⟨by omega, by omega⟩
    have mg1 : a * g 10 4 = a * h 10 4 := by rw [g104]
    have mg2 : b * g 10 5 = b * h 10 5 := by rw [g105]
    have mg3 : b * g 10 6 = b * h 10 6 := by rw [g106]
    have hpt := mt_pt_bd hn1 hn2 (mt_mod hn1 (x + a * g 10 4 + b * g 10 5)) (mt_mod hn1 (y + b * g 10 6))
    refine pg_br 2 (L := []) (P := pg_inR a ∧ pg_inR (n / h 10 4)) (c := (n / h 10 4) ≤ a) (st1 := (142, [(0, .inr (.inr 13)), (1, .inl x), (2, .inl y), (3, .inl f), (4, .inl (n / h 10 6)), (5, .inl (n / h 10 4)), (6, .inl b), (7, .inl a)], [], g)) (st2 := (84, [(0, .inr (.inr 13)), (1, .inl x), (2, .inl y), (3, .inl f), (4, .inl (n / h 10 6)), (5, .inl (n / h 10 4)), (6, .inl b), (7, .inl a)], [], g)) rfl trivial ⟨⟨by omega, by omega⟩, ⟨by omega, by omega⟩⟩ (fun c_81_2 => ?_) (fun c_81_2 => ?_)
    · exact (by exfalso; omega)
    · refine pg_ca 26 (L := []) (Mc := pm_M_point) (as := [.inr (.inr 4), .inl ((x + (a * (g 10 4))) + (b * (g 10 5))), .inl (y + (b * (g 10 6)))]) (h0 := g) (pc := 134) (lv := [(0, .inr (.inr 13)), (1, .inl x), (2, .inl y), (3, .inl f), (4, .inl (n / h 10 6)), (5, .inl (n / h 10 4)), (6, .inl b), (7, .inl a), (8, .inl ((x + (a * (g 10 4))) + (b * (g 10 5))))]) (rest := [.inr (.inr 14)]) rfl trivial (cm_point hBg ((x + (a * (g 10 4))) + (b * (g 10 5))) (y + (b * (g 10 6))) ⟨by omega, by omega⟩ ⟨by omega, by omega⟩) ?_
      intro r_1 h_1 e_1; rw [e_1.1, e_1.2]
      refine pg_go 4 (L := [0 ≤ (mt_pt n (((x + (a * (g 10 4))) + (b * (g 10 5))) % n) ((y + (b * (g 10 6))) % n)) ∧ (mt_pt n (((x + (a * (g 10 4))) + (b * (g 10 5))) % n) ((y + (b * (g 10 6))) % n)) < (144 : Int)]) (st' := (77, [(0, .inr (.inr 13)), (1, .inl x), (2, .inl y), (3, .inl f), (4, .inl (n / h 10 6)), (5, .inl (n / h 10 4)), (6, .inl b), (7, .inl (a + 1)), (8, .inl ((x + (a * (g 10 4))) + (b * (g 10 5))))], [], pg_up g 14 ((mt_pt n (((x + (a * (g 10 4))) + (b * (g 10 5))) % n) ((y + (b * (g 10 6))) % n)).toNat) f)) rfl ⟨by omega, by omega⟩ ?_
      refine pg_pick [0, 1, 2, 3, 4, 5, 6, 7] rfl ?_
      refine ih _ _ (by omega) (by omega) (pg_fr_up hf (by decide) _ _) (fun q => ?_) hK
      have hst := po_S_s (h := h) (n := n) (x := x) (y := y) (q := q) (a := a) (b := b) ⟨ha, by omega⟩ hb.1
      rw [pg_up_at, g104, g105, g106]
      rw [g104, g105, g106] at hpt
      by_cases hq : (q : Int) = mt_pt n ((x + a * h 10 4 + b * h 10 5) % n) ((y + b * h 10 6) % n)
      · rw [if_pos (by omega)]
        exact ⟨fun _ => rfl, fun hno => absurd (hst.mpr (Or.inr hq)) hno⟩
      · rw [if_neg (by omega)]
        refine ⟨fun hy2 => ?_, fun hno => (hI q).2 (fun hz => hno (hst.mpr (Or.inl hz)))⟩
        rcases hst.mp hy2 with hz | hz
        · exact (hI q).1 hz
        · exact absurd hz hq
theorem po_ms_b {h : pg_H} {s n : Int} (hB : cm_B h s n) (hR : sy_R h s) {x y f : Int} (hx : -1000 ≤ x ∧ x ≤ 1000) (hy : -1000 ≤ y ∧ y ≤ 1000) : ∀ (d : Nat) (g : pg_H) (b : Int) (hd : b + (d : Int) = n / h 10 6) (hb : 0 ≤ b) (hf : pg_fr [14] h g) (hI : ∀ q : Nat, (po_S h n x y q 0 b → g 14 q = f) ∧ (¬ po_S h n x y q 0 b → g 14 q = h 14 q)), pg_Good true pm_O_markShifted (fun r h' => r = none ∧ pg_fr [14] h h' ∧ ∀ q : Nat, (po_S h n x y q 0 (n / h 10 6) → h' 14 q = f) ∧ (¬ po_S h n x y q 0 (n / h 10 6) → h' 14 q = h 14 q)) (67, [(0, .inr (.inr 13)), (1, .inl x), (2, .inl y), (3, .inl f), (4, .inl (n / h 10 6)), (5, .inl (n / h 10 4)), (6, .inl b)], [], g) := by
  intro d
  induction d with
  | zero =>
    intro g b hd hb hf hI
    obtain ⟨hs, ⟨hn1, hn2⟩, e1, e2, e3, e5⟩ := id hB
    have hr := mt_rd_or hs
    obtain ⟨ra, rb, rc, rl, rk⟩ := id hR
    have da := pg_div12 ⟨hn1, hn2⟩ ra.1
    have dc := pg_div12 ⟨hn1, hn2⟩ rc.1
    have hBg := cm_B_fr hB hf (by decide) (by decide)
    have g10 : g 10 = h 10 := hf 10 (by decide)
    have g104 : g 10 4 = h 10 4 := by rw [g10]
    have g105 : g 10 5 = h 10 5 := by rw [g10]
    have g106 : g 10 6 = h 10 6 := by rw [g10]
    refine pg_br 2 (L := []) (P := pg_inR b ∧ pg_inR (n / h 10 6)) (c := (n / h 10 6) ≤ b) (st1 := (148, [(0, .inr (.inr 13)), (1, .inl x), (2, .inl y), (3, .inl f), (4, .inl (n / h 10 6)), (5, .inl (n / h 10 4)), (6, .inl b)], [], g)) (st2 := (74, [(0, .inr (.inr 13)), (1, .inl x), (2, .inl y), (3, .inl f), (4, .inl (n / h 10 6)), (5, .inl (n / h 10 4)), (6, .inl b)], [], g)) rfl trivial ⟨⟨by omega, by omega⟩, ⟨by omega, by omega⟩⟩ (fun c_71_1 => ?_) (fun c_71_1 => ?_)
    · refine pg_re 0 (L := []) (r := none) (h0 := g) rfl trivial ?_
      exact ⟨rfl, hf, by rw [show n / h 10 6 = b by omega]; exact hI⟩
    · exact (by exfalso; omega)
  | succ d ih =>
    intro g b hd hb hf hI
    obtain ⟨hs, ⟨hn1, hn2⟩, e1, e2, e3, e5⟩ := id hB
    have hr := mt_rd_or hs
    obtain ⟨ra, rb, rc, rl, rk⟩ := id hR
    have da := pg_div12 ⟨hn1, hn2⟩ ra.1
    have dc := pg_div12 ⟨hn1, hn2⟩ rc.1
    have hBg := cm_B_fr hB hf (by decide) (by decide)
    have g10 : g 10 = h 10 := hf 10 (by decide)
    have g104 : g 10 4 = h 10 4 := by rw [g10]
    have g105 : g 10 5 = h 10 5 := by rw [g10]
    have g106 : g 10 6 = h 10 6 := by rw [g10]
    refine pg_br 2 (L := []) (P := pg_inR b ∧ pg_inR (n / h 10 6)) (c := (n / h 10 6) ≤ b) (st1 := (148, [(0, .inr (.inr 13)), (1, .inl x), (2, .inl y), (3, .inl f), (4, .inl (n / h 10 6)), (5, .inl (n / h 10 4)), (6, .inl b)], [], g)) (st2 := (74, [(0, .inr (.inr 13)), (1, .inl x), (2, .inl y), (3, .inl f), (4, .inl (n / h 10 6)), (5, .inl (n / h 10 4)), (6, .inl b)], [], g)) rfl trivial ⟨⟨by omega, by omega⟩, ⟨by omega, by omega⟩⟩ (fun c_71_2 => ?_) (fun c_71_2 => ?_)
    · exact (by exfalso; omega)
    · refine pg_go 2 (L := []) (st' := (77, [(0, .inr (.inr 13)), (1, .inl x), (2, .inl y), (3, .inl f), (4, .inl (n / h 10 6)), (5, .inl (n / h 10 4)), (6, .inl b), (7, .inl 0)], [], g)) rfl trivial ?_
      refine po_ms_a hB hR hx hy (b := b) ⟨by omega, by omega⟩ (n / h 10 4).toNat g _ (by omega) (by omega) hf hI (fun g2 hf2 hI2 => ?_)
      refine pg_go 2 (L := []) (st' := (67, [(0, .inr (.inr 13)), (1, .inl x), (2, .inl y), (3, .inl f), (4, .inl (n / h 10 6)), (5, .inl (n / h 10 4)), (6, .inl (b + 1))], [], g2)) rfl trivial ?_
      refine ih g2 _ (by omega) (by omega) hf2 (fun q => ?_)
      rw [po_S_r]
      exact hI2 q
theorem po_ms {h : pg_H} {s n : Int} (hB : cm_B h s n) (hR : sy_R h s) {x y f : Int} (hx : -1000 ≤ x ∧ x ≤ 1000) (hy : -1000 ≤ y ∧ y ≤ 1000) : pg_Sem true pm_O_markShifted [.inr (.inr 13), .inl x, .inl y, .inl f] h (fun r h' => r = none ∧ pg_fr [14] h h' ∧ ∀ q : Nat, (po_S h n x y q 0 (n / h 10 6) → h' 14 q = f) ∧ (¬ po_S h n x y q 0 (n / h 10 6) → h' 14 q = h 14 q)) := by
  obtain ⟨hs, ⟨hn1, hn2⟩, e1, e2, e3, e5⟩ := id hB
  have hr := mt_rd_or hs
  obtain ⟨ra, rb, rc, rl, rk⟩ := id hR
  have da := pg_div12 ⟨hn1, hn2⟩ ra.1
  have dc := pg_div12 ⟨hn1, hn2⟩ rc.1
  have t1 : Int.tdiv (h 4 2) (h 10 6) = n / h 10 6 := by rw [e2, pg_tdiv_nn (by omega)]
  have t2 : Int.tdiv (h 4 2) (h 10 4) = n / h 10 4 := by rw [e2, pg_tdiv_nn (by omega)]
  refine pg_Sem_of pm_O_markShifted_f rfl ?_
  refine pg_br 4 (L := []) (P := pg_inR (h 10 6) ∧ pg_inR 1) (c := 1 ≤ (h 10 6)) (st1 := (15, [(0, .inr (.inr 13)), (1, .inl x), (2, .inl y), (3, .inl f)], [], h)) (st2 := (11, [(0, .inr (.inr 13)), (1, .inl x), (2, .inl y), (3, .inl f)], [], h)) rfl trivial ⟨⟨by omega, by omega⟩, ⟨by decide, by decide⟩⟩ (fun c_8_1 => ?_) (fun c_8_1 => ?_)
  · refine pg_br 12 (L := [(h 10 6) ≠ 0 ∧ pg_inR (h 4 2) ∧ pg_inR (h 10 6)]) (P := pg_inR (h 10 4) ∧ pg_inR 1) (c := 1 ≤ (h 10 4)) (st1 := (47, [(0, .inr (.inr 13)), (1, .inl x), (2, .inl y), (3, .inl f), (4, .inl (Int.tdiv (h 4 2) (h 10 6)))], [], h)) (st2 := (43, [(0, .inr (.inr 13)), (1, .inl x), (2, .inl y), (3, .inl f), (4, .inl (Int.tdiv (h 4 2) (h 10 6)))], [], h)) rfl ⟨by omega, ⟨by omega, by omega⟩, ⟨by omega, by omega⟩⟩ ⟨⟨by omega, by omega⟩, ⟨by decide, by decide⟩⟩ (fun c_40_2 => ?_) (fun c_40_2 => ?_)
    · refine pg_go 10 (L := [(h 10 4) ≠ 0 ∧ pg_inR (h 4 2) ∧ pg_inR (h 10 4)]) (st' := (67, [(0, .inr (.inr 13)), (1, .inl x), (2, .inl y), (3, .inl f), (4, .inl (Int.tdiv (h 4 2) (h 10 6))), (5, .inl (Int.tdiv (h 4 2) (h 10 4))), (6, .inl 0)], [], h)) rfl ⟨by omega, ⟨by omega, by omega⟩, ⟨by omega, by omega⟩⟩ ?_
      rw [t1, t2]
      refine po_ms_b hB hR hx hy (n / h 10 6).toNat h _ (by omega) (by omega) (pg_fr_rf _ _) (fun q => ⟨fun hz => ?_, fun _ => rfl⟩)
      obtain ⟨a, b, h1, h2, h3, -⟩ := hz
      omega
    · exact (by exfalso; omega)
  · exact (by exfalso; omega)
def po_U (h : pg_H) (s n p : Int) (q : Nat) (k0 : Int) : Prop := ∃ k : Int, (0 ≤ k ∧ k < k0) ∧ h 11 k.toNat ≠ -1 ∧ po_S h n (mt_x s k (p % n) (p / n) + h 11 k.toNat) (mt_y s k (p % n) (p / n) + h 12 k.toNat) q 0 (n / h 10 6)
theorem po_U_s {h : pg_H} {s n p : Int} {q : Nat} {k : Int} (hk : 0 ≤ k) : po_U h s n p q (k + 1) ↔ (po_U h s n p q k ∨ (h 11 k.toNat ≠ -1 ∧ po_S h n (mt_x s k (p % n) (p / n) + h 11 k.toNat) (mt_y s k (p % n) (p / n) + h 12 k.toNat) q 0 (n / h 10 6))) := by
  unfold po_U
  constructor
  · rintro ⟨k', h1, h2, h3⟩
    rcases (show k' < k ∨ k' = k by omega) with h4 | rfl
    · exact Or.inl ⟨k', ⟨h1.1, h4⟩, h2, h3⟩
    · exact Or.inr ⟨h2, h3⟩
  · rintro (⟨k', h1, h2, h3⟩ | ⟨h2, h3⟩)
    · exact ⟨k', ⟨h1.1, by omega⟩, h2, h3⟩
    · exact ⟨k, ⟨hk, by omega⟩, h2, h3⟩
theorem po_U_T {h : pg_H} {s n p : Int} {q : Nat} : po_U h s n p q (2 * mt_rd s) ↔ po_T h s n p q := by
  unfold po_U po_T po_S
  constructor
  · rintro ⟨k, h1, h2, a, b, h3, h4, h5, h6⟩
    exact ⟨k, h1, h2, a, b, h3, ⟨h4, by omega⟩, h6⟩
  · rintro ⟨k, h1, h2, a, b, h3, h4, h6⟩
    exact ⟨k, h1, h2, a, b, h3, h4.1, by omega, h6⟩
theorem po_S_fr {h g : pg_H} (hf : pg_fr [14] h g) (n x y : Int) (q : Nat) (a b : Int) : po_S g n x y q a b ↔ po_S h n x y q a b := by
  unfold po_S
  rw [hf 10 (by decide)]
set_option maxHeartbeats 4000000 in
theorem po_mc_l {h : pg_H} {s n : Int} (hB : cm_B h s n) (hR : sy_R h s) {p : Int} (hp : 0 ≤ p ∧ p < n * n) : ∀ (d : Nat) (g : pg_H) (k : Int) (hd : k + (d : Int) = 2 * mt_rd s) (hk : 0 ≤ k) (hf : pg_fr [14] h g) (hI : ∀ q : Nat, (po_U h s n p q k → g 14 q = p) ∧ (¬ po_U h s n p q k → g 14 q = h 14 q)), pg_Good true pm_O_markClass (fun r h' => r = none ∧ pg_fr [14] h h' ∧ ∀ q : Nat, (po_T h s n p q → h' 14 q = p) ∧ (¬ po_T h s n p q → h' 14 q = h 14 q)) (21, [(0, .inr (.inr 13)), (1, .inl p), (2, .inl (p % n)), (3, .inl (p / n)), (4, .inl k)], [], g) := by
  intro d
  induction d with
  | zero =>
    intro g k hd hk hf hI
    obtain ⟨hs, ⟨hn1, hn2⟩, e1, e2, e3, e5⟩ := id hB
    have hr := mt_rd_or hs
    obtain ⟨ra, rb, rc, rl, rk⟩ := id hR
    have hx := mt_mod hn1 p
    have hy := mt_row_bd hn1 hp
    have hBg := cm_B_fr hB hf (by decide) (by decide)
    have hRg := sy_R_fr hf (by decide) (by decide) (by decide) hR
    have g10 : g 10 = h 10 := hf 10 (by decide)
    have g11 : g 11 = h 11 := hf 11 (by decide)
    have g12 : g 12 = h 12 := hf 12 (by decide)
    refine pg_ca 3 (L := []) (Mc := pm_M_linears) (as := [.inr (.inr 4)]) (h0 := g) (pc := 30) (lv := [(0, .inr (.inr 13)), (1, .inl p), (2, .inl (p % n)), (3, .inl (p / n)), (4, .inl k)]) (rest := [.inl k]) rfl trivial (cm_linears hBg) ?_
    intro r_1 h_1 e_1; rw [e_1.1, e_1.2]
    refine pg_br 0 (L := []) (P := pg_inR k ∧ pg_inR (2 * mt_rd s)) (c := (2 * mt_rd s) ≤ k) (st1 := (102, [(0, .inr (.inr 13)), (1, .inl p), (2, .inl (p % n)), (3, .inl (p / n)), (4, .inl k)], [], g)) (st2 := (33, [(0, .inr (.inr 13)), (1, .inl p), (2, .inl (p % n)), (3, .inl (p / n)), (4, .inl k)], [], g)) rfl trivial ⟨⟨by omega, by omega⟩, ⟨by omega, by omega⟩⟩ (fun c_30_1 => ?_) (fun c_30_1 => ?_)
    · refine pg_re 0 (L := []) (r := none) (h0 := g) rfl trivial ?_
      refine ⟨rfl, hf, fun q => ?_⟩
      rw [← po_U_T, show 2 * mt_rd s = k by omega]
      exact hI q
    · exact (by exfalso; omega)
  | succ d ih =>
    intro g k hd hk hf hI
    obtain ⟨hs, ⟨hn1, hn2⟩, e1, e2, e3, e5⟩ := id hB
    have hr := mt_rd_or hs
    obtain ⟨ra, rb, rc, rl, rk⟩ := id hR
    have hx := mt_mod hn1 p
    have hy := mt_row_bd hn1 hp
    have hBg := cm_B_fr hB hf (by decide) (by decide)
    have hRg := sy_R_fr hf (by decide) (by decide) (by decide) hR
    have g10 : g 10 = h 10 := hf 10 (by decide)
    have g11 : g 11 = h 11 := hf 11 (by decide)
    have g12 : g 12 = h 12 := hf 12 (by decide)
    have hX := mt_x_bd (s := s) (k := k) (x := p % n) (y := p / n) 12 (by omega) (by omega)
    have hY := mt_y_bd (s := s) (k := k) (x := p % n) (y := p / n) 12 (by omega) (by omega)
    have r1 := rk k.toNat (by omega)
    have r11 : -1 ≤ g 11 k.toNat ∧ g 11 k.toNat ≤ 12 := by rw [g11]; exact r1.1
    have r12 : g 11 k.toNat ≠ -1 → 0 ≤ g 12 k.toNat ∧ g 12 k.toNat ≤ 12 := by rw [g11, g12]; exact r1.2
    refine pg_ca 3 (L := []) (Mc := pm_M_linears) (as := [.inr (.inr 4)]) (h0 := g) (pc := 30) (lv := [(0, .inr (.inr 13)), (1, .inl p), (2, .inl (p % n)), (3, .inl (p / n)), (4, .inl k)]) (rest := [.inl k]) rfl trivial (cm_linears hBg) ?_
    intro r_1 h_1 e_1; rw [e_1.1, e_1.2]
    refine pg_br 0 (L := []) (P := pg_inR k ∧ pg_inR (2 * mt_rd s)) (c := (2 * mt_rd s) ≤ k) (st1 := (102, [(0, .inr (.inr 13)), (1, .inl p), (2, .inl (p % n)), (3, .inl (p / n)), (4, .inl k)], [], g)) (st2 := (33, [(0, .inr (.inr 13)), (1, .inl p), (2, .inl (p % n)), (3, .inl (p / n)), (4, .inl k)], [], g)) rfl trivial ⟨⟨by omega, by omega⟩, ⟨by omega, by omega⟩⟩ (fun c_30_2 => ?_) (fun c_30_2 => ?_)
    · exact (by exfalso; omega)
    · refine pg_br 6 (L := [0 ≤ k ∧ k < (12 : Int)]) (P := pg_inR (g 11 k.toNat) ∧ pg_inR (-1)) (c := (g 11 k.toNat) = (-1)) (st1 := (96, [(0, .inr (.inr 13)), (1, .inl p), (2, .inl (p % n)), (3, .inl (p / n)), (4, .inl k)], [], g)) (st2 := (47, [(0, .inr (.inr 13)), (1, .inl p), (2, .inl (p % n)), (3, .inl (p / n)), (4, .inl k)], [], g)) rfl ⟨by omega, by omega⟩ ⟨⟨by omega, by omega⟩, ⟨by decide, by decide⟩⟩ (fun c_44_3 => ?_) (fun c_44_3 => ?_)
      · refine pg_go 2 (L := []) (st' := (21, [(0, .inr (.inr 13)), (1, .inl p), (2, .inl (p % n)), (3, .inl (p / n)), (4, .inl (k + 1))], [], g)) rfl trivial ?_
        refine ih g _ (by omega) (by omega) hf (fun q => ?_)
        have hs2 := po_U_s (h := h) (s := s) (n := n) (p := p) (q := q) hk
        have hne : ¬ h 11 k.toNat ≠ -1 := by rw [← g11]; omega
        refine ⟨fun hz => ?_, fun hz => (hI q).2 (fun hw => hz (hs2.mpr (Or.inl hw)))⟩
        rcases hs2.mp hz with hw | hw
        · exact (hI q).1 hw
        · exact absurd hw.1 hne
      · refine pg_ca 6 (L := []) (Mc := pm_M_linearX) (as := [.inr (.inr 4), .inl k, .inl (p % n), .inl (p / n)]) (h0 := g) (pc := 59) (lv := [(0, .inr (.inr 13)), (1, .inl p), (2, .inl (p % n)), (3, .inl (p / n)), (4, .inl k)]) (rest := [.inr (.inr 13)]) rfl trivial (cm_linearX hBg k (p % n) (p / n) ⟨by omega, by omega⟩) ?_
        intro r_1 h_1 e_1; rw [e_1.1, e_1.2]
        refine pg_ca 11 (L := [0 ≤ k ∧ k < (12 : Int)]) (Mc := pm_M_linearY) (as := [.inr (.inr 4), .inl k, .inl (p % n), .inl (p / n)]) (h0 := g) (pc := 81) (lv := [(0, .inr (.inr 13)), (1, .inl p), (2, .inl (p % n)), (3, .inl (p / n)), (4, .inl k)]) (rest := [.inl ((mt_x s k (p % n) (p / n)) + (g 11 k.toNat)), .inr (.inr 13)]) rfl ⟨by omega, by omega⟩ (cm_linearY hBg k (p % n) (p / n) ⟨by omega, by omega⟩) ?_
        intro r_1 h_1 e_1; rw [e_1.1, e_1.2]
        refine pg_ca 7 (L := [0 ≤ k ∧ k < (12 : Int)]) (Mc := pm_O_markShifted) (as := [.inr (.inr 13), .inl ((mt_x s k (p % n) (p / n)) + (g 11 k.toNat)), .inl ((mt_y s k (p % n) (p / n)) + (g 12 k.toNat)), .inl p]) (h0 := g) (pc := 96) (lv := [(0, .inr (.inr 13)), (1, .inl p), (2, .inl (p % n)), (3, .inl (p / n)), (4, .inl k)]) (rest := []) rfl ⟨by omega, by omega⟩ (po_ms hBg hRg (x := ((mt_x s k (p % n) (p / n)) + (g 11 k.toNat))) (y := ((mt_y s k (p % n) (p / n)) + (g 12 k.toNat))) (f := p) ⟨by omega, by omega⟩ ⟨by omega, by omega⟩) ?_
        intro r_1 g2 e_1; obtain ⟨er_, ef_, eI_⟩ := e_1; rw [er_]; have hf2 := pg_fr_tr hf ef_ (by decide)
        refine pg_go 2 (L := []) (st' := (21, [(0, .inr (.inr 13)), (1, .inl p), (2, .inl (p % n)), (3, .inl (p / n)), (4, .inl (k + 1))], [], g2)) rfl trivial ?_
        refine ih g2 _ (by omega) (by omega) hf2 (fun q => ?_)
        have hs2 := po_U_s (h := h) (s := s) (n := n) (p := p) (q := q) hk
        obtain ⟨i1, i2⟩ := eI_ q
        rw [po_S_fr hf, g10, g11, g12] at i1 i2
        refine ⟨fun hz => ?_, fun hz => ?_⟩
        · by_cases hq : po_S h n (mt_x s k (p % n) (p / n) + h 11 k.toNat) (mt_y s k (p % n) (p / n) + h 12 k.toNat) q 0 (n / h 10 6)
          · exact i1 hq
          · rw [i2 hq]
            rcases hs2.mp hz with hw | hw
            · exact (hI q).1 hw
            · exact absurd hw.2 hq
        · rw [i2 (fun hq => hz (hs2.mpr (Or.inr ⟨by rw [← g11]; omega, hq⟩)))]
          exact (hI q).2 (fun hw => hz (hs2.mpr (Or.inl hw)))
theorem po_mc {h : pg_H} {s n : Int} (hB : cm_B h s n) (hR : sy_R h s) {p : Int} (hp : 0 ≤ p ∧ p < n * n) : pg_Sem true pm_O_markClass [.inr (.inr 13), .inl p] h (fun r h' => r = none ∧ pg_fr [14] h h' ∧ ∀ q : Nat, (po_T h s n p q → h' 14 q = p) ∧ (¬ po_T h s n p q → h' 14 q = h 14 q)) := by
  obtain ⟨hs, ⟨hn1, hn2⟩, e1, e2, e3, e5⟩ := id hB
  have hr := mt_rd_or hs
  obtain ⟨ra, rb, rc, rl, rk⟩ := id hR
  have hnn := mt_nn hn1 hn2
  refine pg_Sem_of pm_O_markClass_f rfl ?_
  refine pg_ca 3 (L := []) (Mc := pm_M_columnOf) (as := [.inr (.inr 4), .inl p]) (h0 := h) (pc := 8) (lv := [(0, .inr (.inr 13)), (1, .inl p)]) (rest := []) rfl trivial (cm_columnOf hB p ⟨by omega, by omega⟩) ?_
  intro r_1 h_1 e_1; rw [e_1.1, e_1.2]
  refine pg_ca 4 (L := []) (Mc := pm_M_rowOf) (as := [.inr (.inr 4), .inl p]) (h0 := h) (pc := 17) (lv := [(0, .inr (.inr 13)), (1, .inl p), (2, .inl (p % n))]) (rest := []) rfl trivial (cm_rowOf hB p ⟨by omega, by omega⟩) ?_
  intro r_1 h_1 e_1; rw [e_1.1, e_1.2]
  refine pg_go 3 (L := []) (st' := (21, [(0, .inr (.inr 13)), (1, .inl p), (2, .inl (p % n)), (3, .inl (p / n)), (4, .inl 0)], [], h)) rfl trivial ?_
  refine po_mc_l hB hR hp (2 * mt_rd s).toNat h _ (by omega) (by omega) (pg_fr_rf _ _) (fun q => ⟨fun hz => ?_, fun _ => rfl⟩)
  obtain ⟨k, h1, -⟩ := hz
  omega
