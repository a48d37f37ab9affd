/-! the reference: places -/
theorem pg_bit {a k : Nat} (ha : a < 4096) (hk : k < 12) : pg_and (pg_shr (a : Int) (k : Int)) 1 = if a.testBit k then 1 else 0 := by
  have h := pg_bit0 ⟨a / 64, by omega⟩ ⟨a % 64, by omega⟩ ⟨k, hk⟩
  simp only at h
  rw [show 64 * (a / 64) + a % 64 = a by omega] at h
  exact h
theorem pg_bor {a k : Nat} (ha : a < 4096) (hk : k < 12) : pg_or (a : Int) (pg_shl 1 (k : Int)) = ((a ||| 2 ^ k : Nat) : Int) := by
  have h := pg_bit1 ⟨a / 64, by omega⟩ ⟨a % 64, by omega⟩ ⟨k, hk⟩
  simp only at h
  rw [show 64 * (a / 64) + a % 64 = a by omega] at h
  exact h
/-- a mask whose bits say B -/
def ri_mk (x : Int) (B : Nat → Prop) : Prop := ∃ a : Nat, a < 4096 ∧ x = (a : Int) ∧ ∀ k, k < 12 → (a.testBit k = true ↔ B k)
theorem ri_mk_on {x : Int} {B : Nat → Prop} (h : ri_mk x B) {k : Nat} (hk : k < 12) : pg_and (pg_shr x (k : Int)) 1 = pg_b (B k) := by
  obtain ⟨a, h1, rfl, h2⟩ := h
  rw [pg_bit h1 hk]
  by_cases hb : a.testBit k = true
  · rw [if_pos hb, pg_b_t ((h2 k hk).mp hb)]
  · rw [if_neg hb, pg_b_f (fun h => hb ((h2 k hk).mpr h))]
theorem ri_mk_or {x : Int} {B : Nat → Prop} (h : ri_mk x B) {k : Int} (hk : 0 ≤ k ∧ k < 12) : ri_mk (pg_or x (pg_shl 1 k)) (fun j => B j ∨ (j : Int) = k) := by
  obtain ⟨a, h1, rfl, h2⟩ := h
  have e := pg_bor (a := a) (k := k.toNat) h1 (by omega)
  rw [show ((k.toNat : Nat) : Int) = k by omega] at e
  have h3 : (2 : Nat) ^ k.toNat < 2 ^ 12 := Nat.pow_lt_pow_right (by decide) (by omega)
  refine ⟨a ||| 2 ^ k.toNat, Nat.or_lt_two_pow (n := 12) h1 h3, e, fun j hj => ?_⟩
  rw [Nat.testBit_or, Nat.testBit_two_pow, Bool.or_eq_true, decide_eq_true_eq, h2 j hj]
  constructor
  · rintro (h | h)
    · exact Or.inl h
    · exact Or.inr (by omega)
  · rintro (h | h)
    · exact Or.inl h
    · exact Or.inr (by omega)
theorem ri_mk_b {x : Int} {B : Nat → Prop} (h : ri_mk x B) : 0 ≤ x ∧ x < 4096 := by
  obtain ⟨a, h1, rfl, h2⟩ := h
  omega
theorem ri_mk_iff {x : Int} {B C : Nat → Prop} (h : ri_mk x B) (hc : ∀ k, k < 12 → (B k ↔ C k)) : ri_mk x C := by
  obtain ⟨a, h1, h3, h2⟩ := h
  exact ⟨a, h1, h3, fun k hk => (h2 k hk).trans (hc k hk)⟩
/-- where move M takes the place (P, Q) -/
def mt_pl (s n M P Q : Int) : Int := mt_tg s (6 * n) (M / (n * n)) (6 * (M / n % n)) (6 * (M % n)) P Q
theorem mt_pl_bd {s n M P Q : Int} (h1 : 1 ≤ n) (h2 : n ≤ 12) : 0 ≤ mt_pl s n M P Q ∧ mt_pl s n M P Q < 6 * n * (6 * n) := by
  unfold mt_pl mt_tg mt_pt
  have a := mt_mod (n := 6 * n) (by omega) (mt_x s (M / (n * n)) P Q + 6 * (M / n % n))
  have b := mt_mod (n := 6 * n) (by omega) (mt_y s (M / (n * n)) P Q + 6 * (M % n))
  generalize (mt_x s (M / (n * n)) P Q + 6 * (M / n % n)) % (6 * n) = X at a
  generalize (mt_y s (M / (n * n)) P Q + 6 * (M % n)) % (6 * n) = Y at b
  have c := Int.mul_le_mul_of_nonneg_right (show Y ≤ 6 * n - 1 by omega) (show 0 ≤ 6 * n by omega)
  have d := Int.mul_nonneg b.1 (show 0 ≤ 6 * n by omega)
  rw [Int.sub_mul] at c
  omega
theorem mt_66 {n : Int} (h1 : 1 ≤ n) (h2 : n ≤ 12) : 1 ≤ 6 * n * (6 * n) ∧ 6 * n * (6 * n) ≤ 5184 := by
  rcases mt_n12 ⟨h1, h2⟩ with rfl | rfl | rfl | rfl | rfl | rfl | rfl | rfl | rfl | rfl | rfl | rfl <;> decide
theorem mt_6q {n q : Int} (h1 : 1 ≤ n) (h2 : n ≤ 12) (hq : 0 ≤ q ∧ q < 6 * n) : 0 ≤ 6 * n * q ∧ 6 * n * q ≤ 5184 := by
  have h := mt_66 h1 h2
  have c := Int.mul_le_mul_of_nonneg_left (show q ≤ 6 * n by omega) (show 0 ≤ 6 * n by omega)
  have d := Int.mul_nonneg (show 0 ≤ 6 * n by omega) hq.1
  omega
theorem mt_6s {n i : Int} (h1 : 1 ≤ n) (hi : 0 ≤ i ∧ i < 6 * n * (6 * n)) : (0 ≤ i % (6 * n) ∧ i % (6 * n) < 6 * n) ∧ (0 ≤ i / (6 * n) ∧ i / (6 * n) < 6 * n) ∧ 6 * n * (i / (6 * n)) + i % (6 * n) = i := by
  refine ⟨mt_mod (by omega) _, mt_row_bd (by omega) hi, ?_⟩
  rw [Int.add_comm]
  exact Int.emod_add_mul_ediv i (6 * n)
/-- where move number m takes place number i -/
def mt_pm (s n : Int) (m : Int) (i : Nat) : Int := mt_pl s n m ((i : Int) % (6 * n)) ((i : Int) / (6 * n))
/-- counting along a list of those that P has -/
theorem pg_cn_li {P Q : Nat → Prop} {L : Nat → Int} {N : Nat} (hL : ∀ m, m < N → P m → L (pg_cn P m).toNat = m) : pg_cn (fun b => Q (L b).toNat) (pg_cn P N).toNat = pg_cn (fun m => P m ∧ Q m) N := by
  induction N with
  | zero => rfl
  | succ N ih =>
    have ih := ih (fun m hm => hL m (by omega))
    simp only [pg_cn]
    rcases Classical.em (P N) with hP | hP
    · rw [pg_b_t hP, show (pg_cn P N + 1).toNat = (pg_cn P N).toNat + 1 by have := pg_cn_bd P N; omega]
      simp only [pg_cn]
      rw [ih, hL N (by omega) hP]
      congr 1
      refine pg_b_iff ?_
      rw [Int.toNat_natCast]
      exact ⟨fun h => ⟨hP, h⟩, fun h => h.2⟩
    · rw [pg_b_f hP, pg_b_f (P := P N ∧ Q N) (fun h => hP h.1), Int.add_zero, Int.add_zero]
      exact ih
theorem pg_ex_li {P Q : Nat → Prop} {L : Nat → Int} {N : Nat} (hL : ∀ m, m < N → P m → L (pg_cn P m).toNat = m) : (∃ b : Nat, (b : Int) < pg_cn P N ∧ Q (L b).toNat) ↔ ∃ m, m < N ∧ P m ∧ Q m := by
  constructor
  · rintro ⟨b, h1, h2⟩
    obtain ⟨j, a1, a2, a3⟩ := pg_cn_ex (by omega) h1
    have h3 := hL j a1 a2
    rw [a3, Int.toNat_natCast] at h3
    rw [h3, Int.toNat_natCast] at h2
    exact ⟨j, a1, a2, h2⟩
  · rintro ⟨m, h1, h2, h3⟩
    have a := pg_cn_bd P m
    have b := pg_cn_lt2 h1 h2
    refine ⟨(pg_cn P m).toNat, by omega, ?_⟩
    rw [hL m h1 h2, Int.toNat_natCast]
    exact h3
theorem pg_cn_iff {P Q : Nat → Prop} {N : Nat} (h : ∀ m, m < N → (P m ↔ Q m)) : pg_cn P N = pg_cn Q N := by
  induction N with
  | zero => rfl
  | succ N ih =>
    simp only [pg_cn]
    rw [ih (fun m hm => h m (by omega)), pg_b_iff (h N (by omega))]
theorem re_side {g : pg_H} {s n : Int} (hn : 1 ≤ n ∧ n ≤ 12) : pg_Sem false pm_T_side [.inr (.inr 0)] (rm g s n) (fun r h' => r = some (.inl (6 * n)) ∧ h' = rm g s n) := by
  refine pg_Sem_of pm_T_side_f rfl ?_
  refine pg_re 4 (L := []) (r := some (.inl (6 * n))) (h0 := rm g s n) rfl trivial ?_
  exact ⟨rfl, rfl⟩
theorem re_placeBy {g : pg_H} {s n : Int} (hB : rm_B g s n) (a p q : Int) (ha : 0 ≤ a ∧ a < 2 * mt_rd s * (n * n)) (hp : 0 ≤ p ∧ p < 6 * n) (hq : 0 ≤ q ∧ q < 6 * n) : pg_Sem false pm_T_placeBy [.inr (.inr 0), .inl a, .inl p, .inl q] (rm g s n) (fun r h' => r = some (.inl (mt_pl s n a p q)) ∧ h' = rm (pg_up (pg_up g 0 15 (mt_x s (a / (n * n)) p q)) 0 16 (mt_y s (a / (n * n)) p q)) s n) := by
  obtain ⟨hs, hn, hT⟩ := id hB
  obtain ⟨hn1, hn2⟩ := id hn
  have hr := mt_rd_or hs
  have hN := mt_2rn hs hn
  have hka := mt_kof hn1 ha
  have hua := mt_mod hn1 (a / n)
  have hva := mt_mod hn1 a
  have b1 := mt_x_bd (s := s) (k := a / (n * n)) 100 (x := p) (y := q) (by omega) (by omega)
  have b2 := mt_y_bd (s := s) (k := a / (n * n)) 100 (x := p) (y := q) (by omega) (by omega)
  refine pg_Sem_of pm_T_placeBy_f rfl ?_
  refine pg_ca 3 (L := []) (Mc := pm_T_kOf) (as := [.inr (.inr 0), .inl a]) (h0 := rm g s n) (pc := 6) (lv := [(0, .inr (.inr 0)), (1, .inl a), (2, .inl p), (3, .inl q)]) (rest := [.inr (.inr 0)]) rfl trivial (re_kOf (g := g) (s := s) hn a ⟨by omega, by omega⟩) ?_
  intro r_1 h_1 e_1; rw [e_1.1, e_1.2]
  refine pg_ca 4 (L := [pg_inR p, pg_inR q]) (Mc := pm_T_map) (as := [.inr (.inr 0), .inl (a / (n * n)), .inr (.inl p), .inr (.inl q)]) (h0 := rm g s n) (pc := 13) (lv := [(0, .inr (.inr 0)), (1, .inl a), (2, .inl p), (3, .inl q)]) (rest := []) rfl ⟨⟨by omega, by omega⟩, ⟨by omega, by omega⟩⟩ (re_map (g := g) hB (a / (n * n)) p q ⟨by omega, by omega⟩) ?_
  intro r_1 h_1 e_1; rw [e_1.1, e_1.2]
  refine pg_ca 1 (L := []) (Mc := pm_T_side) (as := [.inr (.inr 0)]) (h0 := rm (pg_up (pg_up g 0 15 (mt_x s (a / (n * n)) p q)) 0 16 (mt_y s (a / (n * n)) p q)) s n) (pc := 17) (lv := [(0, .inr (.inr 0)), (1, .inl a), (2, .inl p), (3, .inl q)]) (rest := []) rfl trivial (re_side (g := (pg_up (pg_up g 0 15 (mt_x s (a / (n * n)) p q)) 0 16 (mt_y s (a / (n * n)) p q))) (s := s) hn) ?_
  intro r_1 h_1 e_1; rw [e_1.1, e_1.2]
  refine pg_ca 5 (L := []) (Mc := pm_T_vOf) (as := [.inr (.inr 0), .inl a]) (h0 := rm (pg_up (pg_up g 0 15 (mt_x s (a / (n * n)) p q)) 0 16 (mt_y s (a / (n * n)) p q)) s n) (pc := 29) (lv := [(0, .inr (.inr 0)), (1, .inl a), (2, .inl p), (3, .inl q)]) (rest := [.inr (.inl 6), .inr (.inl (mt_y s (a / (n * n)) p q)), .inl (6 * n)]) rfl trivial (re_vOf (g := (pg_up (pg_up g 0 15 (mt_x s (a / (n * n)) p q)) 0 16 (mt_y s (a / (n * n)) p q))) (s := s) hn a ⟨by omega, by omega⟩) ?_
  intro r_1 h_1 e_1; rw [e_1.1, e_1.2]
  refine pg_ca 4 (L := [pg_inR (a % n)]) (Mc := pm_T_side) (as := [.inr (.inr 0)]) (h0 := rm (pg_up (pg_up g 0 15 (mt_x s (a / (n * n)) p q)) 0 16 (mt_y s (a / (n * n)) p q)) s n) (pc := 36) (lv := [(0, .inr (.inr 0)), (1, .inl a), (2, .inl p), (3, .inl q)]) (rest := [.inr (.inl ((mt_y s (a / (n * n)) p q) + (6 * (a % n)))), .inl (6 * n)]) rfl ⟨by omega, by omega⟩ (re_side (g := (pg_up (pg_up g 0 15 (mt_x s (a / (n * n)) p q)) 0 16 (mt_y s (a / (n * n)) p q))) (s := s) hn) ?_
  intro r_1 h_1 e_1; rw [e_1.1, e_1.2]
  refine pg_ca 0 (L := []) (Mc := pm_T_mod) (as := [.inr (.inl ((mt_y s (a / (n * n)) p q) + (6 * (a % n)))), .inl (6 * n)]) (h0 := rm (pg_up (pg_up g 0 15 (mt_x s (a / (n * n)) p q)) 0 16 (mt_y s (a / (n * n)) p q)) s n) (pc := 39) (lv := [(0, .inr (.inr 0)), (1, .inl a), (2, .inl p), (3, .inl q)]) (rest := [.inl (6 * n)]) rfl trivial (re_mod (rm (pg_up (pg_up g 0 15 (mt_x s (a / (n * n)) p q)) 0 16 (mt_y s (a / (n * n)) p q)) s n) ((mt_y s (a / (n * n)) p q) + (6 * (a % n))) (6 * n) ⟨by omega, by omega⟩ ⟨by omega, by omega⟩) ?_
  intro r_1 h_1 e_1; rw [e_1.1, e_1.2]
  have hm_36 := mt_mod (n := (6 * n)) (by omega) ((mt_y s (a / (n * n)) p q) + (6 * (a % n)))
  refine pg_ca 6 (L := []) (Mc := pm_T_uOf) (as := [.inr (.inr 0), .inl a]) (h0 := rm (pg_up (pg_up g 0 15 (mt_x s (a / (n * n)) p q)) 0 16 (mt_y s (a / (n * n)) p q)) s n) (pc := 52) (lv := [(0, .inr (.inr 0)), (1, .inl a), (2, .inl p), (3, .inl q)]) (rest := [.inr (.inl 6), .inr (.inl (mt_x s (a / (n * n)) p q)), .inl ((6 * n) * (((mt_y s (a / (n * n)) p q) + (6 * (a % n))) % (6 * n)))]) rfl trivial (re_uOf (g := (pg_up (pg_up g 0 15 (mt_x s (a / (n * n)) p q)) 0 16 (mt_y s (a / (n * n)) p q))) (s := s) hn a ⟨by omega, by omega⟩) ?_
  intro r_1 h_1 e_1; rw [e_1.1, e_1.2]
  refine pg_ca 4 (L := [pg_inR (a / n % n)]) (Mc := pm_T_side) (as := [.inr (.inr 0)]) (h0 := rm (pg_up (pg_up g 0 15 (mt_x s (a / (n * n)) p q)) 0 16 (mt_y s (a / (n * n)) p q)) s n) (pc := 59) (lv := [(0, .inr (.inr 0)), (1, .inl a), (2, .inl p), (3, .inl q)]) (rest := [.inr (.inl ((mt_x s (a / (n * n)) p q) + (6 * (a / n % n)))), .inl ((6 * n) * (((mt_y s (a / (n * n)) p q) + (6 * (a % n))) % (6 * n)))]) rfl ⟨by omega, by omega⟩ (re_side (g := (pg_up (pg_up g 0 15 (mt_x s (a / (n * n)) p q)) 0 16 (mt_y s (a / (n * n)) p q))) (s := s) hn) ?_
  intro r_1 h_1 e_1; rw [e_1.1, e_1.2]
  refine pg_ca 0 (L := []) (Mc := pm_T_mod) (as := [.inr (.inl ((mt_x s (a / (n * n)) p q) + (6 * (a / n % n)))), .inl (6 * n)]) (h0 := rm (pg_up (pg_up g 0 15 (mt_x s (a / (n * n)) p q)) 0 16 (mt_y s (a / (n * n)) p q)) s n) (pc := 62) (lv := [(0, .inr (.inr 0)), (1, .inl a), (2, .inl p), (3, .inl q)]) (rest := [.inl ((6 * n) * (((mt_y s (a / (n * n)) p q) + (6 * (a % n))) % (6 * n)))]) rfl trivial (re_mod (rm (pg_up (pg_up g 0 15 (mt_x s (a / (n * n)) p q)) 0 16 (mt_y s (a / (n * n)) p q)) s n) ((mt_x s (a / (n * n)) p q) + (6 * (a / n % n))) (6 * n) ⟨by omega, by omega⟩ ⟨by omega, by omega⟩) ?_
  intro r_1 h_1 e_1; rw [e_1.1, e_1.2]
  have hm_59 := mt_mod (n := (6 * n)) (by omega) ((mt_x s (a / (n * n)) p q) + (6 * (a / n % n)))
  refine pg_re 1 (L := []) (r := some (.inl (((6 * n) * (((mt_y s (a / (n * n)) p q) + (6 * (a % n))) % (6 * n))) + (((mt_x s (a / (n * n)) p q) + (6 * (a / n % n))) % (6 * n))))) (h0 := rm (pg_up (pg_up g 0 15 (mt_x s (a / (n * n)) p q)) 0 16 (mt_y s (a / (n * n)) p q)) s n) rfl trivial ?_
  refine ⟨?_, rfl⟩
  unfold mt_pl mt_tg mt_pt
  rw [Int.mul_comm (6 * n)]
theorem re_isFixed {g : pg_H} {s n : Int} (hB : rm_B g s n) (a p q : Int) (ha : 0 ≤ a ∧ a < 2 * mt_rd s * (n * n)) (hp : 0 ≤ p ∧ p < 6 * n) (hq : 0 ≤ q ∧ q < 6 * n) : pg_Sem false pm_T_isFixed [.inr (.inr 0), .inl a, .inl p, .inl q] (rm g s n) (fun r h' => r = some (.inl (pg_b (mt_pl s n a p q = 6 * n * q + p))) ∧ h' = rm (pg_up (pg_up g 0 15 (mt_x s (a / (n * n)) p q)) 0 16 (mt_y s (a / (n * n)) p q)) s n) := by
  obtain ⟨hs, hn, hT⟩ := id hB
  obtain ⟨hn1, hn2⟩ := id hn
  have hr := mt_rd_or hs
  have h6 := mt_66 hn1 hn2
  have h6q := mt_6q hn1 hn2 hq
  have hpb := mt_pl_bd (s := s) (M := a) (P := p) (Q := q) hn1 hn2
  refine pg_Sem_of pm_T_isFixed_f rfl ?_
  refine pg_ca 4 (L := []) (Mc := pm_T_placeBy) (as := [.inr (.inr 0), .inl a, .inl p, .inl q]) (h0 := rm g s n) (pc := 7) (lv := [(0, .inr (.inr 0)), (1, .inl a), (2, .inl p), (3, .inl q)]) (rest := []) rfl trivial (re_placeBy (g := g) hB a p q ⟨by omega, by omega⟩ ⟨by omega, by omega⟩ ⟨by omega, by omega⟩) ?_
  intro r_1 h_1 e_1; rw [e_1.1, e_1.2]
  refine pg_ca 1 (L := []) (Mc := pm_T_side) (as := [.inr (.inr 0)]) (h0 := rm (pg_up (pg_up g 0 15 (mt_x s (a / (n * n)) p q)) 0 16 (mt_y s (a / (n * n)) p q)) s n) (pc := 11) (lv := [(0, .inr (.inr 0)), (1, .inl a), (2, .inl p), (3, .inl q)]) (rest := [.inl (mt_pl s n a p q)]) rfl trivial (re_side (g := (pg_up (pg_up g 0 15 (mt_x s (a / (n * n)) p q)) 0 16 (mt_y s (a / (n * n)) p q))) (s := s) hn) ?_
  intro r_1 h_1 e_1; rw [e_1.1, e_1.2]
  refine pg_br 4 (L := []) (P := pg_inR (mt_pl s n a p q) ∧ pg_inR (((6 * n) * q) + p)) (c := ¬ (mt_pl s n a p q) = (((6 * n) * q) + p)) (st1 := (22, [(0, .inr (.inr 0)), (1, .inl a), (2, .inl p), (3, .inl q)], [], rm (pg_up (pg_up g 0 15 (mt_x s (a / (n * n)) p q)) 0 16 (mt_y s (a / (n * n)) p q)) s n)) (st2 := (18, [(0, .inr (.inr 0)), (1, .inl a), (2, .inl p), (3, .inl q)], [], rm (pg_up (pg_up g 0 15 (mt_x s (a / (n * n)) p q)) 0 16 (mt_y s (a / (n * n)) p q)) s n)) rfl trivial ⟨⟨by omega, by omega⟩, ⟨by omega, by omega⟩⟩ (fun c_15_1 => ?_) (fun c_15_1 => ?_)
  · refine pg_re 1 (L := [0 = 0 ∨ 0 = 1]) (r := some (.inl 0)) (h0 := rm (pg_up (pg_up g 0 15 (mt_x s (a / (n * n)) p q)) 0 16 (mt_y s (a / (n * n)) p q)) s n) rfl (Or.inl rfl) ?_
    refine ⟨?_, rfl⟩
    rw [pg_b_f (by omega)]
  · refine pg_re 2 (L := [1 = 0 ∨ 1 = 1]) (r := some (.inl 1)) (h0 := rm (pg_up (pg_up g 0 15 (mt_x s (a / (n * n)) p q)) 0 16 (mt_y s (a / (n * n)) p q)) s n) rfl (Or.inr rfl) ?_
    refine ⟨?_, rfl⟩
    rw [pg_b_t (by omega)]
