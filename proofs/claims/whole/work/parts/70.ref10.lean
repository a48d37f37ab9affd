/-! the reference: edges -/
/-- the axis of a mirror, as it is looked for -/
def ri_ax (s k : Int) : Nat → Int × Int × Int
  | 0 => (100, 0, 0)
  | t + 1 => if 0 < (if (t : Int) / 5 - 2 < 0 then -((t : Int) / 5 - 2) else (t : Int) / 5 - 2) + (if (t : Int) % 5 - 2 < 0 then -((t : Int) % 5 - 2) else (t : Int) % 5 - 2) ∧ (if (t : Int) / 5 - 2 < 0 then -((t : Int) / 5 - 2) else (t : Int) / 5 - 2) + (if (t : Int) % 5 - 2 < 0 then -((t : Int) % 5 - 2) else (t : Int) % 5 - 2) < (ri_ax s k t).1 ∧ mt_x s k ((t : Int) / 5 - 2) ((t : Int) % 5 - 2) = (t : Int) / 5 - 2 ∧ mt_y s k ((t : Int) / 5 - 2) ((t : Int) % 5 - 2) = (t : Int) % 5 - 2 then ((if (t : Int) / 5 - 2 < 0 then -((t : Int) / 5 - 2) else (t : Int) / 5 - 2) + (if (t : Int) % 5 - 2 < 0 then -((t : Int) % 5 - 2) else (t : Int) % 5 - 2), (t : Int) / 5 - 2, (t : Int) % 5 - 2) else ri_ax s k t
theorem ri_ax_s {s k x y : Int} {t : Nat} (ht : (t : Int) = 5 * (x + 2) + (y + 2)) (hx : -2 ≤ x ∧ x ≤ 2) (hy : -2 ≤ y ∧ y ≤ 2) : ri_ax s k (t + 1) = if 0 < (if x < 0 then -x else x) + (if y < 0 then -y else y) ∧ (if x < 0 then -x else x) + (if y < 0 then -y else y) < (ri_ax s k t).1 ∧ mt_x s k x y = x ∧ mt_y s k x y = y then ((if x < 0 then -x else x) + (if y < 0 then -y else y), x, y) else ri_ax s k t := by
  have e1 : (t : Int) / 5 - 2 = x := by omega
  have e2 : (t : Int) % 5 - 2 = y := by omega
  show (if _ then _ else _) = _
  rw [e1, e2]
theorem ri_ax_bd (s k : Int) (t : Nat) (ht : t ≤ 25) : (0 ≤ (ri_ax s k t).1 ∧ (ri_ax s k t).1 ≤ 100) ∧ (-2 ≤ (ri_ax s k t).2.1 ∧ (ri_ax s k t).2.1 ≤ 2) ∧ (-2 ≤ (ri_ax s k t).2.2 ∧ (ri_ax s k t).2.2 ≤ 2) := by
  induction t with
  | zero => exact ⟨by show (0 : Int) ≤ 100 ∧ (100 : Int) ≤ 100; decide, by show (-2 : Int) ≤ 0 ∧ (0 : Int) ≤ 2; decide, by show (-2 : Int) ≤ 0 ∧ (0 : Int) ≤ 2; decide⟩
  | succ t ih =>
    have ih := ih (by omega)
    rw [ri_ax_s (x := (t : Int) / 5 - 2) (y := (t : Int) % 5 - 2) (by omega) (by omega) (by omega)]
    by_cases hc : 0 < (if (t : Int) / 5 - 2 < 0 then -((t : Int) / 5 - 2) else (t : Int) / 5 - 2) + (if (t : Int) % 5 - 2 < 0 then -((t : Int) % 5 - 2) else (t : Int) % 5 - 2) ∧ (if (t : Int) / 5 - 2 < 0 then -((t : Int) / 5 - 2) else (t : Int) / 5 - 2) + (if (t : Int) % 5 - 2 < 0 then -((t : Int) % 5 - 2) else (t : Int) % 5 - 2) < (ri_ax s k t).1 ∧ mt_x s k ((t : Int) / 5 - 2) ((t : Int) % 5 - 2) = (t : Int) / 5 - 2 ∧ mt_y s k ((t : Int) / 5 - 2) ((t : Int) % 5 - 2) = (t : Int) % 5 - 2
    · rw [if_pos hc]
      simp only
      omega
    · rw [if_neg hc]
      exact ih
/-- parts as trees: rt the root, dp the depth; E: what was joined -/
def ri_U (F : Nat → Int) (K : Nat) (E : Nat → Nat → Prop) (rt dp : Nat → Nat) : Prop := (∀ p, p < K → rt p < K ∧ F (rt p) = rt p ∧ rt (rt p) = rt p ∧ (F p = p → rt p = p) ∧ (F p ≠ p → 0 ≤ F p ∧ F p < K ∧ dp (F p).toNat < dp p ∧ rt (F p).toNat = rt p)) ∧ (∀ c d, E c d → rt c = rt d) ∧ ∀ f : Nat → Nat, (∀ c d, E c d → f c = f d) → ∀ c, c < K → f (rt c) = f c
theorem ri_U_iff {F : Nat → Int} {K : Nat} {E E' : Nat → Nat → Prop} {rt dp : Nat → Nat} (hU : ri_U F K E rt dp) (h : ∀ c d, E' c d ↔ E c d) : ri_U F K E' rt dp := ⟨hU.1, fun c d h1 => hU.2.1 c d ((h c d).mp h1), fun f hf => hU.2.2 f (fun c d h1 => hf c d ((h c d).mpr h1))⟩
theorem ri_U_add {F : Nat → Int} {K : Nat} {E : Nat → Nat → Prop} {rt dp : Nat → Nat} {x y : Nat} (hU : ri_U F K E rt dp) (hx : x < K) (hy : y < K) : ∃ rt' dp' : Nat → Nat, ri_U (fun p => if p = rt x then ((rt y : Nat) : Int) else F p) K (fun c d => E c d ∨ (c = x ∧ d = y)) rt' dp' := by
  obtain ⟨h1, h2, h3⟩ := hU
  obtain ⟨x1, x2, x3, -, -⟩ := h1 x hx
  obtain ⟨y1, y2, y3, -, -⟩ := h1 y hy
  by_cases he : rt x = rt y
  · refine ⟨rt, dp, fun p hp => ?_, ?_, fun f hf c hc => h3 f (fun c d h => hf c d (Or.inl h)) c hc⟩
    · have e : ∀ q, (if q = rt x then ((rt y : Nat) : Int) else F q) = F q := by
        intro q
        split
        · next h => rw [h, x2, he]
        · rfl
      simp only [e]
      exact h1 p hp
    · rintro c d (h | ⟨rfl, rfl⟩)
      · exact h2 c d h
      · exact he
  · refine ⟨fun p => if rt p = rt x then rt y else rt p, fun p => if rt p = rt x then dp p + dp (rt y) + 1 else dp p, fun p hp => ?_, ?_, fun f hf c hc => ?_⟩
    · obtain ⟨a1, a2, a3, a4, a5⟩ := h1 p hp
      have hyx : rt y ≠ rt x := fun h => he h.symm
      by_cases hp1 : rt p = rt x
      · simp only [if_pos hp1]
        rw [if_neg hyx, y3, if_neg hyx]
        refine ⟨y1, y2, rfl, ?_, ?_⟩
        · intro h
          by_cases hc : p = rt x
          · rw [if_pos hc] at h
            omega
          · rw [if_neg hc] at h
            exact absurd (a4 h) (fun h => hc (by omega))
        · intro h
          by_cases hc : p = rt x
          · rw [if_pos hc, Int.toNat_natCast]
            refine ⟨by omega, by omega, ?_, ?_⟩
            · rw [y3, if_neg hyx]; omega
            · rw [y3, if_neg hyx]
          · rw [if_neg hc] at h ⊢
            obtain ⟨b1, b2, b3, b4⟩ := a5 h
            refine ⟨b1, b2, ?_, ?_⟩
            · rw [b4, if_pos hp1]; omega
            · rw [b4, if_pos hp1]
      · simp only [if_neg hp1]
        rw [a3, if_neg hp1]
        refine ⟨a1, a2, rfl, ?_, ?_⟩
        · intro h
          by_cases hc : p = rt x
          · exact absurd (by rw [hc]; exact x3) hp1
          · rw [if_neg hc] at h
            exact a4 h
        · intro h
          by_cases hc : p = rt x
          · exact absurd (by rw [hc]; exact x3) hp1
          · rw [if_neg hc] at h ⊢
            obtain ⟨b1, b2, b3, b4⟩ := a5 h
            refine ⟨b1, b2, ?_, ?_⟩
            · rw [b4, if_neg hp1]; exact b3
            · rw [b4, if_neg hp1]
    · rintro c d (h | ⟨rfl, rfl⟩)
      · show (if rt c = rt x then rt y else rt c) = (if rt d = rt x then rt y else rt d)
        rw [h2 c d h]
      · show (if rt c = rt c then rt d else rt c) = (if rt d = rt c then rt d else rt d)
        rw [if_pos rfl]
        split <;> rfl
    · have g1 := h3 f (fun c d h => hf c d (Or.inl h))
      have g2 := hf x y (Or.inr ⟨rfl, rfl⟩)
      show f (if rt c = rt x then rt y else rt c) = f c
      split
      · next h => rw [g1 y hy, ← g2, ← g1 x hx, ← h, g1 c hc]
      · exact g1 c hc
theorem ri_cl_nn {R : Nat → Nat → Prop} {A : Nat} (hR : ∀ x, x < A → R x x) {i x : Nat} (hi : i ≤ A) (hx : x < i) : 0 ≤ (ri_cl R i).1 x := by
  induction i with
  | zero => omega
  | succ i ih =>
    have hb := (ri_cl_bd R i).1.1
    rcases Classical.em ((ri_cl R i).1 i < 0) with h | h
    · rw [ri_cl_t h]
      show 0 ≤ pg_if (R i x) (ri_cl R i).2 ((ri_cl R i).1 x)
      rcases (show x < i ∨ x = i by omega) with h1 | rfl
      · rcases Classical.em (R i x) with hc | hc
        · rw [pg_if_t hc]; exact hb
        · rw [pg_if_f hc]; exact ih (by omega) h1
      · rw [pg_if_t (hR x (by omega))]; exact hb
    · rw [ri_cl_f h]
      rcases (show x < i ∨ x = i by omega) with h1 | rfl
      · exact ih (by omega) h1
      · omega
theorem ri_cl_l2 (R : Nat → Nat → Prop) (i x : Nat) : (ri_cl R i).1 x < (ri_cl R i).2 := by
  induction i with
  | zero => show (-1 : Int) < 0; decide
  | succ i ih =>
    rcases Classical.em ((ri_cl R i).1 i < 0) with h | h
    · rw [ri_cl_t h]
      show pg_if (R i x) (ri_cl R i).2 ((ri_cl R i).1 x) < (ri_cl R i).2 + 1
      rcases Classical.em (R i x) with hc | hc
      · rw [pg_if_t hc]; omega
      · rw [pg_if_f hc]; omega
    · rw [ri_cl_f h]; exact ih
theorem mt_pm_0 {s n : Int} (hn : 1 ≤ n ∧ n ≤ 12) {x : Nat} (hx : x < (6 * n * (6 * n)).toNat) : mt_pm s n 0 x = x := by
  have h6 := mt_6s hn.1 (i := (x : Int)) (by omega)
  unfold mt_pm mt_pl mt_tg mt_pt
  rw [Int.zero_ediv, Int.zero_ediv, Int.zero_emod, (mt_x0 s _ _).1, (mt_x0 s _ _).2, Int.mul_zero, Int.add_zero, Int.add_zero, Int.emod_eq_of_lt h6.1.1 h6.1.2, Int.emod_eq_of_lt h6.2.1.1 h6.2.1.2]
  rw [Int.mul_comm]
  exact h6.2.2
theorem mt_pR_rf {col : Nat → Int} {s n : Int} (hs : s = 0 ∨ s = 1) (hn : 1 ≤ n ∧ n ≤ 12) {x : Nat} (hx : x < (6 * n * (6 * n)).toNat) : mt_pR col s n x x := by
  have hN := mt_2rn hs hn
  exact ⟨0, by omega, mt_sm_0 _ _ _, mt_pm_0 hn hx⟩
/-- the place beside place j, along the axis of k -/
def ri_nb (s n k : Int) (j : Nat) : Int := 6 * n * (((j : Int) / (6 * n) + (ri_ax s k 25).2.2) % (6 * n)) + ((j : Int) % (6 * n) + (ri_ax s k 25).2.1) % (6 * n)
theorem ri_nb_bd {s n k : Int} (hn : 1 ≤ n) (j : Nat) : 0 ≤ ri_nb s n k j ∧ ri_nb s n k j < 6 * n * (6 * n) := by
  unfold ri_nb
  have a := mt_mod (n := 6 * n) (by omega) ((j : Int) / (6 * n) + (ri_ax s k 25).2.2)
  have b := mt_mod (n := 6 * n) (by omega) ((j : Int) % (6 * n) + (ri_ax s k 25).2.1)
  generalize ((j : Int) / (6 * n) + (ri_ax s k 25).2.2) % (6 * n) = Y at a
  generalize ((j : Int) % (6 * n) + (ri_ax s k 25).2.1) % (6 * n) = X at b
  have c := Int.mul_le_mul_of_nonneg_left (show Y ≤ 6 * n - 1 by omega) (show 0 ≤ 6 * n by omega)
  have d := Int.mul_nonneg (show 0 ≤ 6 * n by omega) a.1
  rw [Int.mul_sub] at c
  omega
def ri_ed (L : Nat → Nat) (cl : Nat → Int) (s n : Int) (b j c d : Nat) : Prop := mt_rd s ≤ ((L b : Nat) : Int) / (n * n) ∧ mt_pm s n (L b) j = j ∧ c = (cl j).toNat ∧ d = (cl (ri_nb s n (((L b : Nat) : Int) / (n * n)) j).toNat).toNat
def ri_Ea (L : Nat → Nat) (cl : Nat → Int) (s n A a i : Int) (c d : Nat) : Prop := ∃ b j : Nat, ((b : Int) < a ∨ ((b : Int) = a ∧ (j : Int) < i)) ∧ (j : Int) < A ∧ ri_ed L cl s n b j c d
theorem ri_Ea_A {L : Nat → Nat} {cl : Nat → Int} {s n A a : Int} (c d : Nat) : ri_Ea L cl s n A (a + 1) 0 c d ↔ ri_Ea L cl s n A a A c d := by
  constructor
  · rintro ⟨b, j, h1, h2, h3⟩; exact ⟨b, j, by omega, h2, h3⟩
  · rintro ⟨b, j, h1, h2, h3⟩; exact ⟨b, j, by omega, h2, h3⟩
theorem ri_Ea_no {L : Nat → Nat} {cl : Nat → Int} {s n A a : Int} (ha : 0 ≤ a) (hk : ¬ mt_rd s ≤ ((L a.toNat : Nat) : Int) / (n * n)) (c d : Nat) : ri_Ea L cl s n A (a + 1) 0 c d ↔ ri_Ea L cl s n A a 0 c d := by
  constructor
  · rintro ⟨b, j, h1, h2, h3⟩
    rcases (show (b : Int) < a ∨ b = a.toNat by omega) with h | rfl
    · exact ⟨b, j, Or.inl h, h2, h3⟩
    · exact absurd h3.1 hk
  · rintro ⟨b, j, h1, h2, h3⟩; exact ⟨b, j, by omega, h2, h3⟩
theorem ri_Ea_s {L : Nat → Nat} {cl : Nat → Int} {s n A a i : Int} (ha : 0 ≤ a) (hi : 0 ≤ i ∧ i < A) (c d : Nat) : ri_Ea L cl s n A a (i + 1) c d ↔ ri_Ea L cl s n A a i c d ∨ ri_ed L cl s n a.toNat i.toNat c d := by
  constructor
  · rintro ⟨b, j, h1, h2, h3⟩
    rcases (show ((b : Int) < a ∨ ((b : Int) = a ∧ (j : Int) < i)) ∨ (b = a.toNat ∧ j = i.toNat) by omega) with h | ⟨rfl, rfl⟩
    · exact Or.inl ⟨b, j, h, h2, h3⟩
    · exact Or.inr h3
  · rintro (⟨b, j, h1, h2, h3⟩ | h)
    · exact ⟨b, j, by omega, h2, h3⟩
    · exact ⟨a.toNat, i.toNat, by omega, by omega, h⟩
/-- the joins of the classes along mirrors -/
def mt_E (col : Nat → Int) (s n : Int) (c d : Nat) : Prop := ∃ m : Nat, m < (2 * mt_rd s * (n * n)).toNat ∧ mt_sm col s n m ∧ ∃ j : Nat, (j : Int) < 6 * n * (6 * n) ∧ mt_rd s ≤ (m : Int) / (n * n) ∧ mt_pm s n m j = j ∧ c = ((ri_cl (mt_pR col s n) (6 * n * (6 * n)).toNat).1 j).toNat ∧ d = ((ri_cl (mt_pR col s n) (6 * n * (6 * n)).toNat).1 (ri_nb s n ((m : Int) / (n * n)) j).toNat).toNat
def ri_ec (col : Nat → Int) (s n z : Int) : Prop := ∃ rt : Nat → Nat, (∀ p : Nat, (p : Int) < pg_cn (mt_rp col s n) (6 * n * (6 * n)).toNat → (rt p : Int) < pg_cn (mt_rp col s n) (6 * n * (6 * n)).toNat ∧ rt (rt p) = rt p) ∧ (∀ c d, mt_E col s n c d → rt c = rt d) ∧ (∀ f : Nat → Nat, (∀ c d, mt_E col s n c d → f c = f d) → ∀ c : Nat, (c : Int) < pg_cn (mt_rp col s n) (6 * n * (6 * n)).toNat → f (rt c) = f c) ∧ z = pg_cn (fun i => mt_rp col s n i ∧ (rt (pg_cn (mt_rp col s n) i).toNat = (pg_cn (mt_rp col s n) i).toNat ∧ 0 < mt_mi col s n i)) (6 * n * (6 * n)).toNat
theorem ri_Ea_end {col : Nat → Int} {L0 : Nat → Int} {cl : Nat → Int} {s n : Int} (hL : ∀ m, m < (2 * mt_rd s * (n * n)).toNat → mt_sm col s n m → L0 (pg_cn (mt_sm col s n) m).toNat = m) (hn : 1 ≤ n) (hcl : ∀ j : Nat, (j : Int) < 6 * n * (6 * n) → cl j = (ri_cl (mt_pR col s n) (6 * n * (6 * n)).toNat).1 j) (c d : Nat) : mt_E col s n c d ↔ ri_Ea (fun b => (L0 b).toNat) cl s n (6 * n * (6 * n)) (pg_cn (mt_sm col s n) (2 * mt_rd s * (n * n)).toNat) 0 c d := by
  have h := pg_ex_li (Q := fun m => ∃ j : Nat, (j : Int) < 6 * n * (6 * n) ∧ mt_rd s ≤ (m : Int) / (n * n) ∧ mt_pm s n m j = j ∧ c = ((ri_cl (mt_pR col s n) (6 * n * (6 * n)).toNat).1 j).toNat ∧ d = ((ri_cl (mt_pR col s n) (6 * n * (6 * n)).toNat).1 (ri_nb s n ((m : Int) / (n * n)) j).toNat).toNat) hL
  constructor
  · intro hE
    obtain ⟨b, h1, j, h2, h3, h4, h5, h6⟩ := h.mpr hE
    refine ⟨b, j, Or.inl h1, h2, h3, h4, ?_, ?_⟩
    · rw [hcl j h2]; exact h5
    · have hb := ri_nb_bd (s := s) (k := (((L0 b).toNat : Nat) : Int) / (n * n)) hn j
      rw [hcl (ri_nb s n ((((L0 b).toNat : Nat) : Int) / (n * n)) j).toNat (by omega)]; exact h6
  · rintro ⟨b, j, h1, h2, h3, h4, h5, h6⟩
    refine h.mp ⟨b, by omega, j, h2, h3, h4, ?_, ?_⟩
    · rw [← hcl j h2]; exact h5
    · have hb := ri_nb_bd (s := s) (k := (((L0 b).toNat : Nat) : Int) / (n * n)) hn j
      rw [← hcl (ri_nb s n ((((L0 b).toNat : Nat) : Int) / (n * n)) j).toNat (by omega)]; exact h6
set_option maxRecDepth 20000 in
set_option maxHeartbeats 4000000 in
theorem re_ax_y {g0 : pg_H} {s n : Int} (hB0 : rm_B g0 s n) {k : Int} (hk : 0 ≤ k ∧ k < 2 * mt_rd s) {x : Int} (hx : -2 ≤ x ∧ x ≤ 2) (hK : ∀ (g2 : pg_H) (b2 : Int), rf [] [15, 16, 23, 24] g0 g2 → b2 = (ri_ax s k (5 * (x + 2) + 5).toNat).1 → g2 0 23 = (ri_ax s k (5 * (x + 2) + 5).toNat).2.1 → g2 0 24 = (ri_ax s k (5 * (x + 2) + 5).toNat).2.2 → pg_Good false pm_T_findAxis (fun r h' => r = none ∧ ∃ g', h' = rm g' s n ∧ rf [] [15, 16, 23, 24] g0 g' ∧ g' 0 23 = (ri_ax s k 25).2.1 ∧ g' 0 24 = (ri_ax s k 25).2.2) (16, [(0, .inr (.inr 0)), (1, .inl k), (2, .inl b2), (3, .inl (x + 1))], [], rm g2 s n)) : ∀ (d : Nat) (g : pg_H) (b y : Int) (hd : y + (d : Int) = 3) (hy : -2 ≤ y) (hf : rf [] [15, 16, 23, 24] g0 g) (hb : b = (ri_ax s k (5 * (x + 2) + (y + 2)).toNat).1) (h3 : g 0 23 = (ri_ax s k (5 * (x + 2) + (y + 2)).toNat).2.1) (h4 : g 0 24 = (ri_ax s k (5 * (x + 2) + (y + 2)).toNat).2.2), pg_Good false pm_T_findAxis (fun r h' => r = none ∧ ∃ g', h' = rm g' s n ∧ rf [] [15, 16, 23, 24] g0 g' ∧ g' 0 23 = (ri_ax s k 25).2.1 ∧ g' 0 24 = (ri_ax s k 25).2.2) (25, [(0, .inr (.inr 0)), (1, .inl k), (2, .inl b), (3, .inl x), (4, .inl y)], [], rm g s n) := by
  intro d
  induction d with
  | zero =>
    intro g b y hd hy hf hb h3 h4
    have hB := rm_B_fr hB0 hf (by decide)
    obtain ⟨hs, hn, -⟩ := id hB
    obtain ⟨hn1, hn2⟩ := id hn
    have hr := mt_rd_or hs
    refine pg_br 2 (L := []) (P := pg_inR y ∧ pg_inR 2) (c := 2 < y) (st1 := (121, [(0, .inr (.inr 0)), (1, .inl k), (2, .inl b), (3, .inl x), (4, .inl y)], [], rm g s n)) (st2 := (31, [(0, .inr (.inr 0)), (1, .inl k), (2, .inl b), (3, .inl x), (4, .inl y)], [], rm g s n)) rfl trivial ⟨⟨by omega, by omega⟩, ⟨by decide, by decide⟩⟩ (fun c_28_1 => ?_) (fun c_28_1 => ?_)
    · refine pg_go 2 (L := []) (st' := (16, [(0, .inr (.inr 0)), (1, .inl k), (2, .inl b), (3, .inl (x + 1)), (4, .inl y)], [], rm g s n)) rfl trivial ?_
      refine pg_pick [0, 1, 2, 3] rfl ?_
      have ey : (5 * (x + 2) + (y + 2)).toNat = (5 * (x + 2) + 5).toNat := by omega
      rw [ey] at hb h3 h4
      exact hK _ _ hf hb h3 h4
    · exact (by exfalso; omega)
  | succ d ih =>
    intro g b y hd hy hf hb h3 h4
    have hB := rm_B_fr hB0 hf (by decide)
    obtain ⟨hs, hn, -⟩ := id hB
    obtain ⟨hn1, hn2⟩ := id hn
    have hr := mt_rd_or hs
    have b1 := mt_x_bd (s := s) (k := k) (x := x) (y := y) 2 (by omega) (by omega)
    have b2 := mt_y_bd (s := s) (k := k) (x := x) (y := y) 2 (by omega) (by omega)
    have c1 := pg_cmp_or (mt_x s k x y) x
    have c2 := pg_cmp_or (mt_y s k x y) y
    have hab := ri_ax_bd s k (5 * (x + 2) + (y + 2)).toNat (by omega)
    have ek : (5 * (x + 2) + (y + 1 + 2)).toNat = (5 * (x + 2) + (y + 2)).toNat + 1 := by omega
    have hst := ri_ax_s (s := s) (k := k) (x := x) (y := y) (t := (5 * (x + 2) + (y + 2)).toNat) (by omega) hx (by omega)
    refine pg_br 2 (L := []) (P := pg_inR y ∧ pg_inR 2) (c := 2 < y) (st1 := (121, [(0, .inr (.inr 0)), (1, .inl k), (2, .inl b), (3, .inl x), (4, .inl y)], [], rm g s n)) (st2 := (31, [(0, .inr (.inr 0)), (1, .inl k), (2, .inl b), (3, .inl x), (4, .inl y)], [], rm g s n)) rfl trivial ⟨⟨by omega, by omega⟩, ⟨by decide, by decide⟩⟩ (fun c_28_2 => ?_) (fun c_28_2 => ?_)
    · exact (by exfalso; omega)
    · refine pg_ca 6 (L := [pg_inR x, pg_inR y]) (Mc := pm_T_map) (as := [.inr (.inr 0), .inl k, .inr (.inl x), .inr (.inl y)]) (h0 := rm g s n) (pc := 41) (lv := [(0, .inr (.inr 0)), (1, .inl k), (2, .inl b), (3, .inl x), (4, .inl y)]) (rest := []) rfl ⟨⟨by omega, by omega⟩, ⟨by omega, by omega⟩⟩ (re_map (g := g) hB k x y ⟨by omega, by omega⟩) ?_
      intro r_1 h_1 e_1; rw [e_1.1, e_1.2]
      refine pg_br 1 (L := []) (P := pg_inR x) (c := 0 ≤ x) (st1 := (50, [(0, .inr (.inr 0)), (1, .inl k), (2, .inl b), (3, .inl x), (4, .inl y)], [], rm (pg_up (pg_up g 0 15 (mt_x s k x y)) 0 16 (mt_y s k x y)) s n)) (st2 := (45, [(0, .inr (.inr 0)), (1, .inl k), (2, .inl b), (3, .inl x), (4, .inl y)], [], rm (pg_up (pg_up g 0 15 (mt_x s k x y)) 0 16 (mt_y s k x y)) s n)) rfl trivial ⟨by omega, by omega⟩ (fun c_42_3 => ?_) (fun c_42_3 => ?_)
      · refine pg_br 2 (L := []) (P := pg_inR y) (c := 0 ≤ y) (st1 := (62, [(0, .inr (.inr 0)), (1, .inl k), (2, .inl b), (3, .inl x), (4, .inl y)], [.inl x], rm (pg_up (pg_up g 0 15 (mt_x s k x y)) 0 16 (mt_y s k x y)) s n)) (st2 := (56, [(0, .inr (.inr 0)), (1, .inl k), (2, .inl b), (3, .inl x), (4, .inl y)], [.inl x], rm (pg_up (pg_up g 0 15 (mt_x s k x y)) 0 16 (mt_y s k x y)) s n)) rfl trivial ⟨by omega, by omega⟩ (fun c_53_4 => ?_) (fun c_53_4 => ?_)
        · refine pg_br 4 (L := []) (P := pg_inR (x + y)) (c := (x + y) ≤ 0) (st1 := (115, [(0, .inr (.inr 0)), (1, .inl k), (2, .inl b), (3, .inl x), (4, .inl y), (5, .inl (x + y))], [], rm (pg_up (pg_up g 0 15 (mt_x s k x y)) 0 16 (mt_y s k x y)) s n)) (st2 := (72, [(0, .inr (.inr 0)), (1, .inl k), (2, .inl b), (3, .inl x), (4, .inl y), (5, .inl (x + y))], [], rm (pg_up (pg_up g 0 15 (mt_x s k x y)) 0 16 (mt_y s k x y)) s n)) rfl trivial ⟨by omega, by omega⟩ (fun c_69_5 => ?_) (fun c_69_5 => ?_)
          · refine pg_go 2 (L := []) (st' := (25, [(0, .inr (.inr 0)), (1, .inl k), (2, .inl b), (3, .inl x), (4, .inl (y + 1)), (5, .inl (x + y))], [], rm (pg_up (pg_up g 0 15 (mt_x s k x y)) 0 16 (mt_y s k x y)) s n)) rfl trivial ?_
            refine pg_pick [0, 1, 2, 3, 4] rfl ?_
            refine ih _ _ _ (by omega) (by omega) (rf_0 (rf_0 hf (by decide) _) (by decide) _) ?_ ?_ ?_
            all_goals rw [ek, hst, if_neg (by omega)]
            · exact hb
            · exact h3
            · exact h4
          · refine pg_br 2 (L := []) (P := pg_inR (x + y) ∧ pg_inR b) (c := b ≤ (x + y)) (st1 := (115, [(0, .inr (.inr 0)), (1, .inl k), (2, .inl b), (3, .inl x), (4, .inl y), (5, .inl (x + y))], [], rm (pg_up (pg_up g 0 15 (mt_x s k x y)) 0 16 (mt_y s k x y)) s n)) (st2 := (78, [(0, .inr (.inr 0)), (1, .inl k), (2, .inl b), (3, .inl x), (4, .inl y), (5, .inl (x + y))], [], rm (pg_up (pg_up g 0 15 (mt_x s k x y)) 0 16 (mt_y s k x y)) s n)) rfl trivial ⟨⟨by omega, by omega⟩, ⟨by omega, by omega⟩⟩ (fun c_75_6 => ?_) (fun c_75_6 => ?_)
            · refine pg_go 2 (L := []) (st' := (25, [(0, .inr (.inr 0)), (1, .inl k), (2, .inl b), (3, .inl x), (4, .inl (y + 1)), (5, .inl (x + y))], [], rm (pg_up (pg_up g 0 15 (mt_x s k x y)) 0 16 (mt_y s k x y)) s n)) rfl trivial ?_
              refine pg_pick [0, 1, 2, 3, 4] rfl ?_
              refine ih _ _ _ (by omega) (by omega) (rf_0 (rf_0 hf (by decide) _) (by decide) _) ?_ ?_ ?_
              all_goals rw [ek, hst, if_neg (by omega)]
              · exact hb
              · exact h3
              · exact h4
            · refine pg_br 5 (L := [pg_inR x, pg_inL (mt_x s k x y) ∧ pg_inL x]) (P := pg_inR (pg_cmp (mt_x s k x y) x)) (c := ¬ (pg_cmp (mt_x s k x y) x) = 0) (st1 := (115, [(0, .inr (.inr 0)), (1, .inl k), (2, .inl b), (3, .inl x), (4, .inl y), (5, .inl (x + y))], [], rm (pg_up (pg_up g 0 15 (mt_x s k x y)) 0 16 (mt_y s k x y)) s n)) (st2 := (88, [(0, .inr (.inr 0)), (1, .inl k), (2, .inl b), (3, .inl x), (4, .inl y), (5, .inl (x + y))], [], rm (pg_up (pg_up g 0 15 (mt_x s k x y)) 0 16 (mt_y s k x y)) s n)) rfl ⟨⟨by omega, by omega⟩, ⟨⟨by omega, by omega⟩, ⟨by omega, by omega⟩⟩⟩ ⟨by omega, by omega⟩ (fun c_85_7 => ?_) (fun c_85_7 => ?_)
              · refine pg_go 2 (L := []) (st' := (25, [(0, .inr (.inr 0)), (1, .inl k), (2, .inl b), (3, .inl x), (4, .inl (y + 1)), (5, .inl (x + y))], [], rm (pg_up (pg_up g 0 15 (mt_x s k x y)) 0 16 (mt_y s k x y)) s n)) rfl trivial ?_
                refine pg_pick [0, 1, 2, 3, 4] rfl ?_
                refine ih _ _ _ (by omega) (by omega) (rf_0 (rf_0 hf (by decide) _) (by decide) _) ?_ ?_ ?_
                all_goals rw [ek, hst, if_neg (by omega)]
                · exact hb
                · exact h3
                · exact h4
              · refine pg_br 5 (L := [pg_inR y, pg_inL (mt_y s k x y) ∧ pg_inL y]) (P := pg_inR (pg_cmp (mt_y s k x y) y)) (c := ¬ (pg_cmp (mt_y s k x y) y) = 0) (st1 := (115, [(0, .inr (.inr 0)), (1, .inl k), (2, .inl b), (3, .inl x), (4, .inl y), (5, .inl (x + y))], [], rm (pg_up (pg_up g 0 15 (mt_x s k x y)) 0 16 (mt_y s k x y)) s n)) (st2 := (99, [(0, .inr (.inr 0)), (1, .inl k), (2, .inl b), (3, .inl x), (4, .inl y), (5, .inl (x + y))], [], rm (pg_up (pg_up g 0 15 (mt_x s k x y)) 0 16 (mt_y s k x y)) s n)) rfl ⟨⟨by omega, by omega⟩, ⟨⟨by omega, by omega⟩, ⟨by omega, by omega⟩⟩⟩ ⟨by omega, by omega⟩ (fun c_96_8 => ?_) (fun c_96_8 => ?_)
                · refine pg_go 2 (L := []) (st' := (25, [(0, .inr (.inr 0)), (1, .inl k), (2, .inl b), (3, .inl x), (4, .inl (y + 1)), (5, .inl (x + y))], [], rm (pg_up (pg_up g 0 15 (mt_x s k x y)) 0 16 (mt_y s k x y)) s n)) rfl trivial ?_
                  refine pg_pick [0, 1, 2, 3, 4] rfl ?_
                  refine ih _ _ _ (by omega) (by omega) (rf_0 (rf_0 hf (by decide) _) (by decide) _) ?_ ?_ ?_
                  all_goals rw [ek, hst, if_neg (by omega)]
                  · exact hb
                  · exact h3
                  · exact h4
                · refine pg_go 12 (L := [pg_inR x, pg_inR y]) (st' := (25, [(0, .inr (.inr 0)), (1, .inl k), (2, .inl (x + y)), (3, .inl x), (4, .inl (y + 1)), (5, .inl (x + y))], [], pg_up (pg_up (rm (pg_up (pg_up g 0 15 (mt_x s k x y)) 0 16 (mt_y s k x y)) s n) 0 23 x) 0 24 y)) rfl ⟨⟨by omega, by omega⟩, ⟨by omega, by omega⟩⟩ ?_
                  rw [rm_up0 (i := 23) (by decide) (by decide), rm_up0 (i := 24) (by decide) (by decide)]
                  refine pg_pick [0, 1, 2, 3, 4] rfl ?_
                  refine ih _ _ _ (by omega) (by omega) (rf_0 (rf_0 (rf_0 (rf_0 hf (by decide) _) (by decide) _) (by decide) _) (by decide) _) ?_ ?_ ?_
                  all_goals rw [ek, hst, if_pos (by omega)]
                  · simp only; omega
                  · rfl
                  · rfl
        · refine pg_br 6 (L := []) (P := pg_inR (x + (-y))) (c := (x + (-y)) ≤ 0) (st1 := (115, [(0, .inr (.inr 0)), (1, .inl k), (2, .inl b), (3, .inl x), (4, .inl y), (5, .inl (x + (-y)))], [], rm (pg_up (pg_up g 0 15 (mt_x s k x y)) 0 16 (mt_y s k x y)) s n)) (st2 := (72, [(0, .inr (.inr 0)), (1, .inl k), (2, .inl b), (3, .inl x), (4, .inl y), (5, .inl (x + (-y)))], [], rm (pg_up (pg_up g 0 15 (mt_x s k x y)) 0 16 (mt_y s k x y)) s n)) rfl trivial ⟨by omega, by omega⟩ (fun c_69_9 => ?_) (fun c_69_9 => ?_)
          · refine pg_go 2 (L := []) (st' := (25, [(0, .inr (.inr 0)), (1, .inl k), (2, .inl b), (3, .inl x), (4, .inl (y + 1)), (5, .inl (x + (-y)))], [], rm (pg_up (pg_up g 0 15 (mt_x s k x y)) 0 16 (mt_y s k x y)) s n)) rfl trivial ?_
            refine pg_pick [0, 1, 2, 3, 4] rfl ?_
            refine ih _ _ _ (by omega) (by omega) (rf_0 (rf_0 hf (by decide) _) (by decide) _) ?_ ?_ ?_
            all_goals rw [ek, hst, if_neg (by omega)]
            · exact hb
            · exact h3
            · exact h4
          · refine pg_br 2 (L := []) (P := pg_inR (x + (-y)) ∧ pg_inR b) (c := b ≤ (x + (-y))) (st1 := (115, [(0, .inr (.inr 0)), (1, .inl k), (2, .inl b), (3, .inl x), (4, .inl y), (5, .inl (x + (-y)))], [], rm (pg_up (pg_up g 0 15 (mt_x s k x y)) 0 16 (mt_y s k x y)) s n)) (st2 := (78, [(0, .inr (.inr 0)), (1, .inl k), (2, .inl b), (3, .inl x), (4, .inl y), (5, .inl (x + (-y)))], [], rm (pg_up (pg_up g 0 15 (mt_x s k x y)) 0 16 (mt_y s k x y)) s n)) rfl trivial ⟨⟨by omega, by omega⟩, ⟨by omega, by omega⟩⟩ (fun c_75_10 => ?_) (fun c_75_10 => ?_)
            · refine pg_go 2 (L := []) (st' := (25, [(0, .inr (.inr 0)), (1, .inl k), (2, .inl b), (3, .inl x), (4, .inl (y + 1)), (5, .inl (x + (-y)))], [], rm (pg_up (pg_up g 0 15 (mt_x s k x y)) 0 16 (mt_y s k x y)) s n)) rfl trivial ?_
              refine pg_pick [0, 1, 2, 3, 4] rfl ?_
              refine ih _ _ _ (by omega) (by omega) (rf_0 (rf_0 hf (by decide) _) (by decide) _) ?_ ?_ ?_
              all_goals rw [ek, hst, if_neg (by omega)]
              · exact hb
              · exact h3
              · exact h4
            · refine pg_br 5 (L := [pg_inR x, pg_inL (mt_x s k x y) ∧ pg_inL x]) (P := pg_inR (pg_cmp (mt_x s k x y) x)) (c := ¬ (pg_cmp (mt_x s k x y) x) = 0) (st1 := (115, [(0, .inr (.inr 0)), (1, .inl k), (2, .inl b), (3, .inl x), (4, .inl y), (5, .inl (x + (-y)))], [], rm (pg_up (pg_up g 0 15 (mt_x s k x y)) 0 16 (mt_y s k x y)) s n)) (st2 := (88, [(0, .inr (.inr 0)), (1, .inl k), (2, .inl b), (3, .inl x), (4, .inl y), (5, .inl (x + (-y)))], [], rm (pg_up (pg_up g 0 15 (mt_x s k x y)) 0 16 (mt_y s k x y)) s n)) rfl ⟨⟨by omega, by omega⟩, ⟨⟨by omega, by omega⟩, ⟨by omega, by omega⟩⟩⟩ ⟨by omega, by omega⟩ (fun c_85_11 => ?_) (fun c_85_11 => ?_)
              · refine pg_go 2 (L := []) (st' := (25, [(0, .inr (.inr 0)), (1, .inl k), (2, .inl b), (3, .inl x), (4, .inl (y + 1)), (5, .inl (x + (-y)))], [], rm (pg_up (pg_up g 0 15 (mt_x s k x y)) 0 16 (mt_y s k x y)) s n)) rfl trivial ?_
                refine pg_pick [0, 1, 2, 3, 4] rfl ?_
                refine ih _ _ _ (by omega) (by omega) (rf_0 (rf_0 hf (by decide) _) (by decide) _) ?_ ?_ ?_
                all_goals rw [ek, hst, if_neg (by omega)]
                · exact hb
                · exact h3
                · exact h4
              · refine pg_br 5 (L := [pg_inR y, pg_inL (mt_y s k x y) ∧ pg_inL y]) (P := pg_inR (pg_cmp (mt_y s k x y) y)) (c := ¬ (pg_cmp (mt_y s k x y) y) = 0) (st1 := (115, [(0, .inr (.inr 0)), (1, .inl k), (2, .inl b), (3, .inl x), (4, .inl y), (5, .inl (x + (-y)))], [], rm (pg_up (pg_up g 0 15 (mt_x s k x y)) 0 16 (mt_y s k x y)) s n)) (st2 := (99, [(0, .inr (.inr 0)), (1, .inl k), (2, .inl b), (3, .inl x), (4, .inl y), (5, .inl (x + (-y)))], [], rm (pg_up (pg_up g 0 15 (mt_x s k x y)) 0 16 (mt_y s k x y)) s n)) rfl ⟨⟨by omega, by omega⟩, ⟨⟨by omega, by omega⟩, ⟨by omega, by omega⟩⟩⟩ ⟨by omega, by omega⟩ (fun c_96_12 => ?_) (fun c_96_12 => ?_)
                · refine pg_go 2 (L := []) (st' := (25, [(0, .inr (.inr 0)), (1, .inl k), (2, .inl b), (3, .inl x), (4, .inl (y + 1)), (5, .inl (x + (-y)))], [], rm (pg_up (pg_up g 0 15 (mt_x s k x y)) 0 16 (mt_y s k x y)) s n)) rfl trivial ?_
                  refine pg_pick [0, 1, 2, 3, 4] rfl ?_
                  refine ih _ _ _ (by omega) (by omega) (rf_0 (rf_0 hf (by decide) _) (by decide) _) ?_ ?_ ?_
                  all_goals rw [ek, hst, if_neg (by omega)]
                  · exact hb
                  · exact h3
                  · exact h4
                · refine pg_go 12 (L := [pg_inR x, pg_inR y]) (st' := (25, [(0, .inr (.inr 0)), (1, .inl k), (2, .inl (x + (-y))), (3, .inl x), (4, .inl (y + 1)), (5, .inl (x + (-y)))], [], pg_up (pg_up (rm (pg_up (pg_up g 0 15 (mt_x s k x y)) 0 16 (mt_y s k x y)) s n) 0 23 x) 0 24 y)) rfl ⟨⟨by omega, by omega⟩, ⟨by omega, by omega⟩⟩ ?_
                  rw [rm_up0 (i := 23) (by decide) (by decide), rm_up0 (i := 24) (by decide) (by decide)]
                  refine pg_pick [0, 1, 2, 3, 4] rfl ?_
                  refine ih _ _ _ (by omega) (by omega) (rf_0 (rf_0 (rf_0 (rf_0 hf (by decide) _) (by decide) _) (by decide) _) (by decide) _) ?_ ?_ ?_
                  all_goals rw [ek, hst, if_pos (by omega)]
                  · simp only; omega
                  · rfl
                  · rfl
      · refine pg_br 4 (L := []) (P := pg_inR y) (c := 0 ≤ y) (st1 := (62, [(0, .inr (.inr 0)), (1, .inl k), (2, .inl b), (3, .inl x), (4, .inl y)], [.inl (-x)], rm (pg_up (pg_up g 0 15 (mt_x s k x y)) 0 16 (mt_y s k x y)) s n)) (st2 := (56, [(0, .inr (.inr 0)), (1, .inl k), (2, .inl b), (3, .inl x), (4, .inl y)], [.inl (-x)], rm (pg_up (pg_up g 0 15 (mt_x s k x y)) 0 16 (mt_y s k x y)) s n)) rfl trivial ⟨by omega, by omega⟩ (fun c_53_13 => ?_) (fun c_53_13 => ?_)
        · refine pg_br 4 (L := []) (P := pg_inR ((-x) + y)) (c := ((-x) + y) ≤ 0) (st1 := (115, [(0, .inr (.inr 0)), (1, .inl k), (2, .inl b), (3, .inl x), (4, .inl y), (5, .inl ((-x) + y))], [], rm (pg_up (pg_up g 0 15 (mt_x s k x y)) 0 16 (mt_y s k x y)) s n)) (st2 := (72, [(0, .inr (.inr 0)), (1, .inl k), (2, .inl b), (3, .inl x), (4, .inl y), (5, .inl ((-x) + y))], [], rm (pg_up (pg_up g 0 15 (mt_x s k x y)) 0 16 (mt_y s k x y)) s n)) rfl trivial ⟨by omega, by omega⟩ (fun c_69_14 => ?_) (fun c_69_14 => ?_)
          · refine pg_go 2 (L := []) (st' := (25, [(0, .inr (.inr 0)), (1, .inl k), (2, .inl b), (3, .inl x), (4, .inl (y + 1)), (5, .inl ((-x) + y))], [], rm (pg_up (pg_up g 0 15 (mt_x s k x y)) 0 16 (mt_y s k x y)) s n)) rfl trivial ?_
            refine pg_pick [0, 1, 2, 3, 4] rfl ?_
            refine ih _ _ _ (by omega) (by omega) (rf_0 (rf_0 hf (by decide) _) (by decide) _) ?_ ?_ ?_
            all_goals rw [ek, hst, if_neg (by omega)]
            · exact hb
            · exact h3
            · exact h4
          · refine pg_br 2 (L := []) (P := pg_inR ((-x) + y) ∧ pg_inR b) (c := b ≤ ((-x) + y)) (st1 := (115, [(0, .inr (.inr 0)), (1, .inl k), (2, .inl b), (3, .inl x), (4, .inl y), (5, .inl ((-x) + y))], [], rm (pg_up (pg_up g 0 15 (mt_x s k x y)) 0 16 (mt_y s k x y)) s n)) (st2 := (78, [(0, .inr (.inr 0)), (1, .inl k), (2, .inl b), (3, .inl x), (4, .inl y), (5, .inl ((-x) + y))], [], rm (pg_up (pg_up g 0 15 (mt_x s k x y)) 0 16 (mt_y s k x y)) s n)) rfl trivial ⟨⟨by omega, by omega⟩, ⟨by omega, by omega⟩⟩ (fun c_75_15 => ?_) (fun c_75_15 => ?_)
            · refine pg_go 2 (L := []) (st' := (25, [(0, .inr (.inr 0)), (1, .inl k), (2, .inl b), (3, .inl x), (4, .inl (y + 1)), (5, .inl ((-x) + y))], [], rm (pg_up (pg_up g 0 15 (mt_x s k x y)) 0 16 (mt_y s k x y)) s n)) rfl trivial ?_
              refine pg_pick [0, 1, 2, 3, 4] rfl ?_
              refine ih _ _ _ (by omega) (by omega) (rf_0 (rf_0 hf (by decide) _) (by decide) _) ?_ ?_ ?_
              all_goals rw [ek, hst, if_neg (by omega)]
              · exact hb
              · exact h3
              · exact h4
            · refine pg_br 5 (L := [pg_inR x, pg_inL (mt_x s k x y) ∧ pg_inL x]) (P := pg_inR (pg_cmp (mt_x s k x y) x)) (c := ¬ (pg_cmp (mt_x s k x y) x) = 0) (st1 := (115, [(0, .inr (.inr 0)), (1, .inl k), (2, .inl b), (3, .inl x), (4, .inl y), (5, .inl ((-x) + y))], [], rm (pg_up (pg_up g 0 15 (mt_x s k x y)) 0 16 (mt_y s k x y)) s n)) (st2 := (88, [(0, .inr (.inr 0)), (1, .inl k), (2, .inl b), (3, .inl x), (4, .inl y), (5, .inl ((-x) + y))], [], rm (pg_up (pg_up g 0 15 (mt_x s k x y)) 0 16 (mt_y s k x y)) s n)) rfl ⟨⟨by omega, by omega⟩, ⟨⟨by omega, by omega⟩, ⟨by omega, by omega⟩⟩⟩ ⟨by omega, by omega⟩ (fun c_85_16 => ?_) (fun c_85_16 => ?_)
              · refine pg_go 2 (L := []) (st' := (25, [(0, .inr (.inr 0)), (1, .inl k), (2, .inl b), (3, .inl x), (4, .inl (y + 1)), (5, .inl ((-x) + y))], [], rm (pg_up (pg_up g 0 15 (mt_x s k x y)) 0 16 (mt_y s k x y)) s n)) rfl trivial ?_
                refine pg_pick [0, 1, 2, 3, 4] rfl ?_
                refine ih _ _ _ (by omega) (by omega) (rf_0 (rf_0 hf (by decide) _) (by decide) _) ?_ ?_ ?_
                all_goals rw [ek, hst, if_neg (by omega)]
                · exact hb
                · exact h3
                · exact h4
              · refine pg_br 5 (L := [pg_inR y, pg_inL (mt_y s k x y) ∧ pg_inL y]) (P := pg_inR (pg_cmp (mt_y s k x y) y)) (c := ¬ (pg_cmp (mt_y s k x y) y) = 0) (st1 := (115, [(0, .inr (.inr 0)), (1, .inl k), (2, .inl b), (3, .inl x), (4, .inl y), (5, .inl ((-x) + y))], [], rm (pg_up (pg_up g 0 15 (mt_x s k x y)) 0 16 (mt_y s k x y)) s n)) (st2 := (99, [(0, .inr (.inr 0)), (1, .inl k), (2, .inl b), (3, .inl x), (4, .inl y), (5, .inl ((-x) + y))], [], rm (pg_up (pg_up g 0 15 (mt_x s k x y)) 0 16 (mt_y s k x y)) s n)) rfl ⟨⟨by omega, by omega⟩, ⟨⟨by omega, by omega⟩, ⟨by omega, by omega⟩⟩⟩ ⟨by omega, by omega⟩ (fun c_96_17 => ?_) (fun c_96_17 => ?_)
                · refine pg_go 2 (L := []) (st' := (25, [(0, .inr (.inr 0)), (1, .inl k), (2, .inl b), (3, .inl x), (4, .inl (y + 1)), (5, .inl ((-x) + y))], [], rm (pg_up (pg_up g 0 15 (mt_x s k x y)) 0 16 (mt_y s k x y)) s n)) rfl trivial ?_
                  refine pg_pick [0, 1, 2, 3, 4] rfl ?_
                  refine ih _ _ _ (by omega) (by omega) (rf_0 (rf_0 hf (by decide) _) (by decide) _) ?_ ?_ ?_
                  all_goals rw [ek, hst, if_neg (by omega)]
                  · exact hb
                  · exact h3
                  · exact h4
                · refine pg_go 12 (L := [pg_inR x, pg_inR y]) (st' := (25, [(0, .inr (.inr 0)), (1, .inl k), (2, .inl ((-x) + y)), (3, .inl x), (4, .inl (y + 1)), (5, .inl ((-x) + y))], [], pg_up (pg_up (rm (pg_up (pg_up g 0 15 (mt_x s k x y)) 0 16 (mt_y s k x y)) s n) 0 23 x) 0 24 y)) rfl ⟨⟨by omega, by omega⟩, ⟨by omega, by omega⟩⟩ ?_
                  rw [rm_up0 (i := 23) (by decide) (by decide), rm_up0 (i := 24) (by decide) (by decide)]
                  refine pg_pick [0, 1, 2, 3, 4] rfl ?_
                  refine ih _ _ _ (by omega) (by omega) (rf_0 (rf_0 (rf_0 (rf_0 hf (by decide) _) (by decide) _) (by decide) _) (by decide) _) ?_ ?_ ?_
                  all_goals rw [ek, hst, if_pos (by omega)]
                  · simp only; omega
                  · rfl
                  · rfl
        · refine pg_br 6 (L := []) (P := pg_inR ((-x) + (-y))) (c := ((-x) + (-y)) ≤ 0) (st1 := (115, [(0, .inr (.inr 0)), (1, .inl k), (2, .inl b), (3, .inl x), (4, .inl y), (5, .inl ((-x) + (-y)))], [], rm (pg_up (pg_up g 0 15 (mt_x s k x y)) 0 16 (mt_y s k x y)) s n)) (st2 := (72, [(0, .inr (.inr 0)), (1, .inl k), (2, .inl b), (3, .inl x), (4, .inl y), (5, .inl ((-x) + (-y)))], [], rm (pg_up (pg_up g 0 15 (mt_x s k x y)) 0 16 (mt_y s k x y)) s n)) rfl trivial ⟨by omega, by omega⟩ (fun c_69_18 => ?_) (fun c_69_18 => ?_)
          · refine pg_go 2 (L := []) (st' := (25, [(0, .inr (.inr 0)), (1, .inl k), (2, .inl b), (3, .inl x), (4, .inl (y + 1)), (5, .inl ((-x) + (-y)))], [], rm (pg_up (pg_up g 0 15 (mt_x s k x y)) 0 16 (mt_y s k x y)) s n)) rfl trivial ?_
            refine pg_pick [0, 1, 2, 3, 4] rfl ?_
            refine ih _ _ _ (by omega) (by omega) (rf_0 (rf_0 hf (by decide) _) (by decide) _) ?_ ?_ ?_
            all_goals rw [ek, hst, if_neg (by omega)]
            · exact hb
            · exact h3
            · exact h4
          · refine pg_br 2 (L := []) (P := pg_inR ((-x) + (-y)) ∧ pg_inR b) (c := b ≤ ((-x) + (-y))) (st1 := (115, [(0, .inr (.inr 0)), (1, .inl k), (2, .inl b), (3, .inl x), (4, .inl y), (5, .inl ((-x) + (-y)))], [], rm (pg_up (pg_up g 0 15 (mt_x s k x y)) 0 16 (mt_y s k x y)) s n)) (st2 := (78, [(0, .inr (.inr 0)), (1, .inl k), (2, .inl b), (3, .inl x), (4, .inl y), (5, .inl ((-x) + (-y)))], [], rm (pg_up (pg_up g 0 15 (mt_x s k x y)) 0 16 (mt_y s k x y)) s n)) rfl trivial ⟨⟨by omega, by omega⟩, ⟨by omega, by omega⟩⟩ (fun c_75_19 => ?_) (fun c_75_19 => ?_)
            · refine pg_go 2 (L := []) (st' := (25, [(0, .inr (.inr 0)), (1, .inl k), (2, .inl b), (3, .inl x), (4, .inl (y + 1)), (5, .inl ((-x) + (-y)))], [], rm (pg_up (pg_up g 0 15 (mt_x s k x y)) 0 16 (mt_y s k x y)) s n)) rfl trivial ?_
              refine pg_pick [0, 1, 2, 3, 4] rfl ?_
              refine ih _ _ _ (by omega) (by omega) (rf_0 (rf_0 hf (by decide) _) (by decide) _) ?_ ?_ ?_
              all_goals rw [ek, hst, if_neg (by omega)]
              · exact hb
              · exact h3
              · exact h4
            · refine pg_br 5 (L := [pg_inR x, pg_inL (mt_x s k x y) ∧ pg_inL x]) (P := pg_inR (pg_cmp (mt_x s k x y) x)) (c := ¬ (pg_cmp (mt_x s k x y) x) = 0) (st1 := (115, [(0, .inr (.inr 0)), (1, .inl k), (2, .inl b), (3, .inl x), (4, .inl y), (5, .inl ((-x) + (-y)))], [], rm (pg_up (pg_up g 0 15 (mt_x s k x y)) 0 16 (mt_y s k x y)) s n)) (st2 := (88, [(0, .inr (.inr 0)), (1, .inl k), (2, .inl b), (3, .inl x), (4, .inl y), (5, .inl ((-x) + (-y)))], [], rm (pg_up (pg_up g 0 15 (mt_x s k x y)) 0 16 (mt_y s k x y)) s n)) rfl ⟨⟨by omega, by omega⟩, ⟨⟨by omega, by omega⟩, ⟨by omega, by omega⟩⟩⟩ ⟨by omega, by omega⟩ (fun c_85_20 => ?_) (fun c_85_20 => ?_)
              · refine pg_go 2 (L := []) (st' := (25, [(0, .inr (.inr 0)), (1, .inl k), (2, .inl b), (3, .inl x), (4, .inl (y + 1)), (5, .inl ((-x) + (-y)))], [], rm (pg_up (pg_up g 0 15 (mt_x s k x y)) 0 16 (mt_y s k x y)) s n)) rfl trivial ?_
                refine pg_pick [0, 1, 2, 3, 4] rfl ?_
                refine ih _ _ _ (by omega) (by omega) (rf_0 (rf_0 hf (by decide) _) (by decide) _) ?_ ?_ ?_
                all_goals rw [ek, hst, if_neg (by omega)]
                · exact hb
                · exact h3
                · exact h4
              · refine pg_br 5 (L := [pg_inR y, pg_inL (mt_y s k x y) ∧ pg_inL y]) (P := pg_inR (pg_cmp (mt_y s k x y) y)) (c := ¬ (pg_cmp (mt_y s k x y) y) = 0) (st1 := (115, [(0, .inr (.inr 0)), (1, .inl k), (2, .inl b), (3, .inl x), (4, .inl y), (5, .inl ((-x) + (-y)))], [], rm (pg_up (pg_up g 0 15 (mt_x s k x y)) 0 16 (mt_y s k x y)) s n)) (st2 := (99, [(0, .inr (.inr 0)), (1, .inl k), (2, .inl b), (3, .inl x), (4, .inl y), (5, .inl ((-x) + (-y)))], [], rm (pg_up (pg_up g 0 15 (mt_x s k x y)) 0 16 (mt_y s k x y)) s n)) rfl ⟨⟨by omega, by omega⟩, ⟨⟨by omega, by omega⟩, ⟨by omega, by omega⟩⟩⟩ ⟨by omega, by omega⟩ (fun c_96_21 => ?_) (fun c_96_21 => ?_)
                · refine pg_go 2 (L := []) (st' := (25, [(0, .inr (.inr 0)), (1, .inl k), (2, .inl b), (3, .inl x), (4, .inl (y + 1)), (5, .inl ((-x) + (-y)))], [], rm (pg_up (pg_up g 0 15 (mt_x s k x y)) 0 16 (mt_y s k x y)) s n)) rfl trivial ?_
                  refine pg_pick [0, 1, 2, 3, 4] rfl ?_
                  refine ih _ _ _ (by omega) (by omega) (rf_0 (rf_0 hf (by decide) _) (by decide) _) ?_ ?_ ?_
                  all_goals rw [ek, hst, if_neg (by omega)]
                  · exact hb
                  · exact h3
                  · exact h4
                · refine pg_go 12 (L := [pg_inR x, pg_inR y]) (st' := (25, [(0, .inr (.inr 0)), (1, .inl k), (2, .inl ((-x) + (-y))), (3, .inl x), (4, .inl (y + 1)), (5, .inl ((-x) + (-y)))], [], pg_up (pg_up (rm (pg_up (pg_up g 0 15 (mt_x s k x y)) 0 16 (mt_y s k x y)) s n) 0 23 x) 0 24 y)) rfl ⟨⟨by omega, by omega⟩, ⟨by omega, by omega⟩⟩ ?_
                  rw [rm_up0 (i := 23) (by decide) (by decide), rm_up0 (i := 24) (by decide) (by decide)]
                  refine pg_pick [0, 1, 2, 3, 4] rfl ?_
                  refine ih _ _ _ (by omega) (by omega) (rf_0 (rf_0 (rf_0 (rf_0 hf (by decide) _) (by decide) _) (by decide) _) (by decide) _) ?_ ?_ ?_
                  all_goals rw [ek, hst, if_pos (by omega)]
                  · simp only; omega
                  · rfl
                  · rfl
set_option maxRecDepth 20000 in
set_option maxHeartbeats 4000000 in
theorem re_ax_x {g0 : pg_H} {s n : Int} (hB0 : rm_B g0 s n) {k : Int} (hk : 0 ≤ k ∧ k < 2 * mt_rd s) : ∀ (d : Nat) (g : pg_H) (b x : Int) (hd : x + (d : Int) = 3) (hx : -2 ≤ x) (hf : rf [] [15, 16, 23, 24] g0 g) (hb : b = (ri_ax s k (5 * (x + 2)).toNat).1) (h3 : g 0 23 = (ri_ax s k (5 * (x + 2)).toNat).2.1) (h4 : g 0 24 = (ri_ax s k (5 * (x + 2)).toNat).2.2), pg_Good false pm_T_findAxis (fun r h' => r = none ∧ ∃ g', h' = rm g' s n ∧ rf [] [15, 16, 23, 24] g0 g' ∧ g' 0 23 = (ri_ax s k 25).2.1 ∧ g' 0 24 = (ri_ax s k 25).2.2) (16, [(0, .inr (.inr 0)), (1, .inl k), (2, .inl b), (3, .inl x)], [], rm g s n) := by
  intro d
  induction d with
  | zero =>
    intro g b x hd hx hf hb h3 h4
    have hB := rm_B_fr hB0 hf (by decide)
    obtain ⟨hs, hn, -⟩ := id hB
    obtain ⟨hn1, hn2⟩ := id hn
    have hr := mt_rd_or hs
    refine pg_br 2 (L := []) (P := pg_inR x ∧ pg_inR 2) (c := 2 < x) (st1 := (127, [(0, .inr (.inr 0)), (1, .inl k), (2, .inl b), (3, .inl x)], [], rm g s n)) (st2 := (21, [(0, .inr (.inr 0)), (1, .inl k), (2, .inl b), (3, .inl x)], [], rm g s n)) rfl trivial ⟨⟨by omega, by omega⟩, ⟨by decide, by decide⟩⟩ (fun c_18_1 => ?_) (fun c_18_1 => ?_)
    · refine pg_re 0 (L := []) (r := none) (h0 := rm g s n) rfl trivial ?_
      have ey : (5 * (x + 2)).toNat = 25 := by omega
      rw [ey] at h3 h4
      exact ⟨rfl, g, rfl, hf, h3, h4⟩
    · exact (by exfalso; omega)
  | succ d ih =>
    intro g b x hd hx hf hb h3 h4
    have hB := rm_B_fr hB0 hf (by decide)
    obtain ⟨hs, hn, -⟩ := id hB
    obtain ⟨hn1, hn2⟩ := id hn
    have hr := mt_rd_or hs
    refine pg_br 2 (L := []) (P := pg_inR x ∧ pg_inR 2) (c := 2 < x) (st1 := (127, [(0, .inr (.inr 0)), (1, .inl k), (2, .inl b), (3, .inl x)], [], rm g s n)) (st2 := (21, [(0, .inr (.inr 0)), (1, .inl k), (2, .inl b), (3, .inl x)], [], rm g s n)) rfl trivial ⟨⟨by omega, by omega⟩, ⟨by decide, by decide⟩⟩ (fun c_18_2 => ?_) (fun c_18_2 => ?_)
    · exact (by exfalso; omega)
    · refine pg_go 2 (L := []) (st' := (25, [(0, .inr (.inr 0)), (1, .inl k), (2, .inl b), (3, .inl x), (4, .inl (-2))], [], rm g s n)) rfl trivial ?_
      refine re_ax_y hB0 hk (x := x) (by omega) ?_ 5 g b (-2) (by omega) (by omega) hf ?_ ?_ ?_
      · intro g2 b2 k1 k2 k3 k4
        rw [show (5 * (x + 2) + 5).toNat = (5 * (x + 1 + 2)).toNat by omega] at k2 k3 k4
        exact ih g2 b2 _ (by omega) (by omega) k1 k2 k3 k4
      all_goals rw [show (5 * (x + 2) + (-2 + 2)).toNat = (5 * (x + 2)).toNat by omega]
      · exact hb
      · exact h3
      · exact h4
theorem re_findAxis {g : pg_H} {s n : Int} (hB : rm_B g s n) (k : Int) (hk : 0 ≤ k ∧ k < 2 * mt_rd s) : pg_Sem false pm_T_findAxis [.inr (.inr 0), .inl k] (rm g s n) (fun r h' => r = none ∧ ∃ g', h' = rm g' s n ∧ rf [] [15, 16, 23, 24] g g' ∧ g' 0 23 = (ri_ax s k 25).2.1 ∧ g' 0 24 = (ri_ax s k 25).2.2) := by
  obtain ⟨hs, hn, hT⟩ := id hB
  obtain ⟨hn1, hn2⟩ := id hn
  have hr := mt_rd_or hs
  refine pg_Sem_of pm_T_findAxis_f rfl ?_
  refine pg_go 10 (L := []) (st' := (16, [(0, .inr (.inr 0)), (1, .inl k), (2, .inl 100), (3, .inl (-2))], [], pg_up (pg_up (rm g s n) 0 23 0) 0 24 0)) rfl trivial ?_
  rw [rm_up0 (i := 23) (by decide) (by decide), rm_up0 (i := 24) (by decide) (by decide)]
  exact re_ax_x hB hk 5 _ 100 (-2) (by omega) (by omega) (rf_0 (rf_0 (rf_rf _ _ _) (by decide) _) (by decide) _) rfl rfl rfl
theorem re_po_l {g : pg_H} {s n : Int} {K : Nat} {E : Nat → Nat → Prop} {rt dp : Nat → Nat} (hU : ri_U (g 15) K E rt dp) (hK : K ≤ 5184) {c : Int} : ∀ (d : Nat) (p : Int) (hd : dp p.toNat ≤ d) (hp : 0 ≤ p ∧ p < K) (hr : rt p.toNat = rt c.toNat), pg_Good false pm_T_partOf (fun r h' => r = some (.inl ((rt c.toNat : Nat) : Int)) ∧ h' = rm g s n) (2, [(0, .inr (.inr 0)), (1, .inl c), (2, .inl p)], [], rm g s n) := by
  intro d
  induction d with
  | zero =>
    intro p hd hp hr
    obtain ⟨a1, a2, a3, a4, a5⟩ := hU.1 p.toNat (by omega)
    have hF : g 15 p.toNat = p := by
      by_cases h : g 15 p.toNat = ((p.toNat : Nat) : Int)
      · omega
      · have := (a5 h).2.2.1; omega
    have a6 := a4 (by omega)
    refine pg_br 5 (L := [0 ≤ p ∧ p < (5184 : Int)]) (P := pg_inR (g 15 p.toNat) ∧ pg_inR p) (c := (g 15 p.toNat) = p) (st1 := (22, [(0, .inr (.inr 0)), (1, .inl c), (2, .inl p)], [], rm g s n)) (st2 := (12, [(0, .inr (.inr 0)), (1, .inl c), (2, .inl p)], [], rm g s n)) rfl ⟨by omega, by omega⟩ ⟨⟨by omega, by omega⟩, ⟨by omega, by omega⟩⟩ (fun c_9_1 => ?_) (fun c_9_1 => ?_)
    · refine pg_re 1 (L := []) (r := some (.inl p)) (h0 := rm g s n) rfl trivial ?_
      refine ⟨?_, rfl⟩
      rw [← hr, a6, show ((p.toNat : Nat) : Int) = p by omega]
    · exact (by exfalso; omega)
  | succ d ih =>
    intro p hd hp hr
    obtain ⟨a1, a2, a3, a4, a5⟩ := hU.1 p.toNat (by omega)
    have hF : (g 15 p.toNat = p ∧ rt p.toNat = p.toNat) ∨ (g 15 p.toNat ≠ p ∧ 0 ≤ g 15 p.toNat ∧ g 15 p.toNat < K ∧ dp (g 15 p.toNat).toNat < dp p.toNat ∧ rt (g 15 p.toNat).toNat = rt p.toNat) := by
      by_cases h : g 15 p.toNat = ((p.toNat : Nat) : Int)
      · exact Or.inl ⟨by omega, a4 h⟩
      · have h5 := a5 h
        exact Or.inr ⟨by omega, h5⟩
    refine pg_br 5 (L := [0 ≤ p ∧ p < (5184 : Int)]) (P := pg_inR (g 15 p.toNat) ∧ pg_inR p) (c := (g 15 p.toNat) = p) (st1 := (22, [(0, .inr (.inr 0)), (1, .inl c), (2, .inl p)], [], rm g s n)) (st2 := (12, [(0, .inr (.inr 0)), (1, .inl c), (2, .inl p)], [], rm g s n)) rfl ⟨by omega, by omega⟩ ⟨⟨by omega, by omega⟩, ⟨by omega, by omega⟩⟩ (fun c_9_2 => ?_) (fun c_9_2 => ?_)
    · refine pg_re 1 (L := []) (r := some (.inl p)) (h0 := rm g s n) rfl trivial ?_
      refine ⟨?_, rfl⟩
      rcases hF with h1 | h1
      · rw [← hr, h1.2, show ((p.toNat : Nat) : Int) = p by omega]
      · exfalso; omega
    · refine pg_go 6 (L := [0 ≤ p ∧ p < (5184 : Int)]) (st' := (2, [(0, .inr (.inr 0)), (1, .inl c), (2, .inl (g 15 p.toNat))], [], rm g s n)) rfl ⟨by omega, by omega⟩ ?_
      rcases hF with h1 | h1
      · exfalso; omega
      · exact ih _ (by omega) (by omega) (by omega)
theorem re_partOf {g : pg_H} {s n : Int} {K : Nat} {E : Nat → Nat → Prop} {rt dp : Nat → Nat} (hU : ri_U (g 15) K E rt dp) (hK : K ≤ 5184) (c : Int) (hc : 0 ≤ c ∧ c < K) : pg_Sem false pm_T_partOf [.inr (.inr 0), .inl c] (rm g s n) (fun r h' => r = some (.inl ((rt c.toNat : Nat) : Int)) ∧ h' = rm g s n) := by
  refine pg_Sem_of pm_T_partOf_f rfl ?_
  refine pg_go 2 (L := []) (st' := (2, [(0, .inr (.inr 0)), (1, .inl c), (2, .inl c)], [], rm g s n)) rfl trivial ?_
  exact re_po_l hU hK (dp c.toNat) c (Nat.le_refl _) hc rfl
set_option maxRecDepth 20000 in
set_option maxHeartbeats 4000000 in
theorem re_ce_c {g0 : pg_H} {s n : Int} (hB0 : rm_B g0 s n) (hS0 : ri_S g0 s n) (hP0 : ri_P g0 s n) {A : Int} {rt dp : Nat → Nat} {g : pg_H} (hf : rf [15] [15, 16, 23, 24] g0 g) (hU : ri_U (g 15) (g0 0 13).toNat (mt_E (g0 1) s n) rt dp) : ∀ (d : Nat) (f c : Int) (hd : c + (d : Int) = g0 0 13) (hc : 0 ≤ c) (hF : f = pg_cn (fun b => g 15 b = b ∧ 0 < g0 5 (g0 8 b).toNat) c.toNat), pg_Good false pm_T_countEdges (fun r h' => ∃ (g' : pg_H) (z : Int), h' = rm g' s n ∧ rf [15] [15, 16, 23, 24] g0 g' ∧ r = some (.inl z) ∧ (0 ≤ z ∧ z ≤ 5184) ∧ ri_ec (g0 1) s n z) (200, [(0, .inr (.inr 0)), (1, .inl A), (2, .inl f), (3, .inl c)], [], rm g s n) := by
  intro d
  induction d with
  | zero =>
    intro f c hd hc hF
    have hB := rm_B_fr hB0 hf (by decide)
    obtain ⟨hs, hn, -⟩ := id hB
    obtain ⟨hn1, hn2⟩ := id hn
    have hr := mt_rd_or hs
    have h66 := mt_66 hn1 hn2
    have hN := mt_2rn hs hn
    have hS := ri_S_fr hS0 hf (by decide)
    have hP := ri_P_fr hP0 hf (by decide)
    have e1 : g 1 = g0 1 := hf.1 1 (by decide) (by decide)
    have e3 : g 3 = g0 3 := hf.1 3 (by decide) (by decide)
    have e7 : g 7 = g0 7 := hf.1 7 (by decide) (by decide)
    have e8 : g 8 = g0 8 := hf.1 8 (by decide) (by decide)
    have e5 : g 5 = g0 5 := hf.1 5 (by decide) (by decide)
    have e13 : g 0 13 = g0 0 13 := hf.2 13 (by decide)
    have e6 : g 0 6 = g0 0 6 := hf.2 6 (by decide)
    have hcb := pg_cn_bd (mt_sm (g0 1) s n) (2 * mt_rd s * (n * n)).toNat
    have h6 : g0 0 6 = pg_cn (mt_sm (g0 1) s n) (2 * mt_rd s * (n * n)).toNat := hS0.1
    obtain ⟨hc1, hc2, hc3⟩ := ri_P_c hn hP0
    refine pg_br 3 (L := []) (P := pg_inR c ∧ pg_inR (g 0 13)) (c := (g 0 13) ≤ c) (st1 := (246, [(0, .inr (.inr 0)), (1, .inl A), (2, .inl f), (3, .inl c)], [], rm g s n)) (st2 := (208, [(0, .inr (.inr 0)), (1, .inl A), (2, .inl f), (3, .inl c)], [], rm g s n)) rfl trivial ⟨⟨by omega, by omega⟩, ⟨by omega, by omega⟩⟩ (fun c_205_1 => ?_) (fun c_205_1 => ?_)
    · refine pg_re 1 (L := []) (r := some (.inl f)) (h0 := rm g s n) rfl trivial ?_
      have hfb := pg_cn_bd (fun b => g 15 b = b ∧ 0 < g0 5 (g0 8 b).toNat) c.toNat
      refine ⟨g, f, rfl, hf, rfl, by omega, rt, fun p hp => ?_, hU.2.1, fun q hq c1 hc1 => hU.2.2 q hq c1 (by omega), ?_⟩
      · obtain ⟨a1, -, a3, -, -⟩ := hU.1 p (by omega)
        exact ⟨by omega, a3⟩
      · rw [← pg_cn_li (Q := fun i => rt (pg_cn (mt_rp (g0 1) s n) i).toNat = (pg_cn (mt_rp (g0 1) s n) i).toNat ∧ 0 < mt_mi (g0 1) s n i) (ri_P_l hP0), ← hc1, hF, show c = g0 0 13 by omega]
        refine pg_cn_iff (fun b hb => ?_)
        obtain ⟨j, j1, j2, j3, j4⟩ := ri_P_g hn hP0 (c := (b : Int)) (by omega)
        rw [Int.toNat_natCast] at j4
        have hb3 := ri_P_b hs hn hP0 j1
        rw [j4, Int.toNat_natCast, j3, Int.toNat_natCast, hb3.2.2.2.2.2.1]
        obtain ⟨a1, a2, a3, a4, a5⟩ := hU.1 b (by omega)
        constructor
        · rintro ⟨q1, q2⟩; exact ⟨a4 q1, q2⟩
        · rintro ⟨q1, q2⟩; exact ⟨by rw [q1] at a2; exact a2, q2⟩
    · exact (by exfalso; omega)
  | succ d ih =>
    intro f c hd hc hF
    have hB := rm_B_fr hB0 hf (by decide)
    obtain ⟨hs, hn, -⟩ := id hB
    obtain ⟨hn1, hn2⟩ := id hn
    have hr := mt_rd_or hs
    have h66 := mt_66 hn1 hn2
    have hN := mt_2rn hs hn
    have hS := ri_S_fr hS0 hf (by decide)
    have hP := ri_P_fr hP0 hf (by decide)
    have e1 : g 1 = g0 1 := hf.1 1 (by decide) (by decide)
    have e3 : g 3 = g0 3 := hf.1 3 (by decide) (by decide)
    have e7 : g 7 = g0 7 := hf.1 7 (by decide) (by decide)
    have e8 : g 8 = g0 8 := hf.1 8 (by decide) (by decide)
    have e5 : g 5 = g0 5 := hf.1 5 (by decide) (by decide)
    have e13 : g 0 13 = g0 0 13 := hf.2 13 (by decide)
    have e6 : g 0 6 = g0 0 6 := hf.2 6 (by decide)
    have hcb := pg_cn_bd (mt_sm (g0 1) s n) (2 * mt_rd s * (n * n)).toNat
    have h6 : g0 0 6 = pg_cn (mt_sm (g0 1) s n) (2 * mt_rd s * (n * n)).toNat := hS0.1
    obtain ⟨hc1, hc2, hc3⟩ := ri_P_c hn hP0
    obtain ⟨j, j1, j2, j3, j4⟩ := ri_P_g hn hP0 (c := c) (by omega)
    have hb3 := ri_P_b hs hn hP0 j1
    have ej : (g0 8 c.toNat).toNat = j := by omega
    have ek : (c + 1).toNat = c.toNat + 1 := by omega
    have hfb := pg_cn_bd (fun b => g 15 b = b ∧ 0 < g0 5 (g0 8 b).toNat) c.toNat
    rw [← ej] at hb3
    obtain ⟨-, hb5, -⟩ := hb3
    have hp := hU.1 c.toNat (by omega)
    have hg15 : 0 ≤ g 15 c.toNat ∧ g 15 c.toNat ≤ 5184 := by
      by_cases h : g 15 c.toNat = ((c.toNat : Nat) : Int)
      · omega
      · have := hp.2.2.2.2 h; omega
    have e88 : g 8 c.toNat = g0 8 c.toNat := by rw [e8]
    have e55 : g 5 (g 8 c.toNat).toNat = g0 5 (g0 8 c.toNat).toNat := by rw [e8, e5]
    refine pg_br 3 (L := []) (P := pg_inR c ∧ pg_inR (g 0 13)) (c := (g 0 13) ≤ c) (st1 := (246, [(0, .inr (.inr 0)), (1, .inl A), (2, .inl f), (3, .inl c)], [], rm g s n)) (st2 := (208, [(0, .inr (.inr 0)), (1, .inl A), (2, .inl f), (3, .inl c)], [], rm g s n)) rfl trivial ⟨⟨by omega, by omega⟩, ⟨by omega, by omega⟩⟩ (fun c_205_2 => ?_) (fun c_205_2 => ?_)
    · exact (by exfalso; omega)
    · refine pg_br 5 (L := [0 ≤ c ∧ c < (5184 : Int)]) (P := pg_inR (g 15 c.toNat) ∧ pg_inR c) (c := ¬ (g 15 c.toNat) = c) (st1 := (238, [(0, .inr (.inr 0)), (1, .inl A), (2, .inl f), (3, .inl c)], [], rm g s n)) (st2 := (218, [(0, .inr (.inr 0)), (1, .inl A), (2, .inl f), (3, .inl c)], [], rm g s n)) rfl ⟨by omega, by omega⟩ ⟨⟨by omega, by omega⟩, ⟨by omega, by omega⟩⟩ (fun c_215_3 => ?_) (fun c_215_3 => ?_)
      · refine pg_go 4 (L := []) (st' := (200, [(0, .inr (.inr 0)), (1, .inl A), (2, .inl f), (3, .inl (c + 1))], [], rm g s n)) rfl trivial ?_
        refine ih _ _ (by omega) (by omega) ?_
        rw [ek]
        simp only [pg_cn]
        rw [pg_b_f (by omega : ¬ (g 15 c.toNat = ((c.toNat : Nat) : Int) ∧ 0 < g0 5 (g0 8 c.toNat).toNat)), hF, Int.add_zero]
      · refine pg_br 7 (L := [0 ≤ c ∧ c < (5184 : Int), 0 ≤ (g 8 c.toNat) ∧ (g 8 c.toNat) < (5184 : Int)]) (P := pg_inR (g 5 ((g 8 c.toNat).toNat))) (c := (g 5 ((g 8 c.toNat).toNat)) ≤ 0) (st1 := (238, [(0, .inr (.inr 0)), (1, .inl A), (2, .inl f), (3, .inl c)], [], rm g s n)) (st2 := (232, [(0, .inr (.inr 0)), (1, .inl A), (2, .inl f), (3, .inl c)], [], rm g s n)) rfl ⟨⟨by omega, by omega⟩, ⟨by omega, by omega⟩⟩ ⟨by omega, by omega⟩ (fun c_229_4 => ?_) (fun c_229_4 => ?_)
        · refine pg_go 4 (L := []) (st' := (200, [(0, .inr (.inr 0)), (1, .inl A), (2, .inl f), (3, .inl (c + 1))], [], rm g s n)) rfl trivial ?_
          refine ih _ _ (by omega) (by omega) ?_
          rw [ek]
          simp only [pg_cn]
          rw [pg_b_f (by omega : ¬ (g 15 c.toNat = ((c.toNat : Nat) : Int) ∧ 0 < g0 5 (g0 8 c.toNat).toNat)), hF, Int.add_zero]
        · refine pg_go 7 (L := []) (st' := (200, [(0, .inr (.inr 0)), (1, .inl A), (2, .inl (f + 1)), (3, .inl (c + 1))], [], rm g s n)) rfl trivial ?_
          refine ih _ _ (by omega) (by omega) ?_
          rw [ek]
          simp only [pg_cn]
          rw [pg_b_t (⟨by omega, by omega⟩ : g 15 c.toNat = ((c.toNat : Nat) : Int) ∧ 0 < g0 5 (g0 8 c.toNat).toNat), hF]
set_option maxRecDepth 20000 in
set_option maxHeartbeats 8000000 in
theorem re_ce_p {g0 : pg_H} {s n : Int} (hB0 : rm_B g0 s n) (hS0 : ri_S g0 s n) (hP0 : ri_P g0 s n) {A a k : Int} (hA : A = 6 * n * (6 * n)) (ha : 0 ≤ a ∧ a < pg_cn (mt_sm (g0 1) s n) (2 * mt_rd s * (n * n)).toNat) (hk : k = (g0 3 a.toNat) / (n * n)) (hkr : mt_rd s ≤ k) (hK : ∀ (g2 : pg_H) (rt2 dp2 : Nat → Nat), rf [15] [15, 16, 23, 24] g0 g2 → ri_U (g2 15) (g0 0 13).toNat (ri_Ea (fun b => (g0 3 b).toNat) (g0 7) s n A (a + 1) 0) rt2 dp2 → pg_Good false pm_T_countEdges (fun r h' => ∃ (g' : pg_H) (z : Int), h' = rm g' s n ∧ rf [15] [15, 16, 23, 24] g0 g' ∧ r = some (.inl z) ∧ (0 ≤ z ∧ z ≤ 5184) ∧ ri_ec (g0 1) s n z) (35, [(0, .inr (.inr 0)), (1, .inl A), (2, .inl (a + 1))], [], rm g2 s n)) : ∀ (d : Nat) (g : pg_H) (rt dp : Nat → Nat) (i : Int) (hd : i + (d : Int) = A) (hi : 0 ≤ i) (hf : rf [15] [15, 16, 23, 24] g0 g) (hU : ri_U (g 15) (g0 0 13).toNat (ri_Ea (fun b => (g0 3 b).toNat) (g0 7) s n A a i) rt dp), pg_Good false pm_T_countEdges (fun r h' => ∃ (g' : pg_H) (z : Int), h' = rm g' s n ∧ rf [15] [15, 16, 23, 24] g0 g' ∧ r = some (.inl z) ∧ (0 ≤ z ∧ z ≤ 5184) ∧ ri_ec (g0 1) s n z) (82, [(0, .inr (.inr 0)), (1, .inl A), (2, .inl a), (3, .inl k), (4, .inr (.inl ((ri_ax s k 25).2.1))), (6, .inr (.inl ((ri_ax s k 25).2.2))), (8, .inl i)], [], rm g s n) := by
  intro d
  induction d with
  | zero =>
    intro g rt dp i hd hi hf hU
    have hB := rm_B_fr hB0 hf (by decide)
    obtain ⟨hs, hn, -⟩ := id hB
    obtain ⟨hn1, hn2⟩ := id hn
    have hr := mt_rd_or hs
    have h66 := mt_66 hn1 hn2
    have hN := mt_2rn hs hn
    have hS := ri_S_fr hS0 hf (by decide)
    have hP := ri_P_fr hP0 hf (by decide)
    have e1 : g 1 = g0 1 := hf.1 1 (by decide) (by decide)
    have e3 : g 3 = g0 3 := hf.1 3 (by decide) (by decide)
    have e7 : g 7 = g0 7 := hf.1 7 (by decide) (by decide)
    have e8 : g 8 = g0 8 := hf.1 8 (by decide) (by decide)
    have e5 : g 5 = g0 5 := hf.1 5 (by decide) (by decide)
    have e13 : g 0 13 = g0 0 13 := hf.2 13 (by decide)
    have e6 : g 0 6 = g0 0 6 := hf.2 6 (by decide)
    have hcb := pg_cn_bd (mt_sm (g0 1) s n) (2 * mt_rd s * (n * n)).toNat
    have h6 : g0 0 6 = pg_cn (mt_sm (g0 1) s n) (2 * mt_rd s * (n * n)).toNat := hS0.1
    obtain ⟨hc1, hc2, hc3⟩ := ri_P_c hn hP0
    refine pg_br 2 (L := []) (P := pg_inR i ∧ pg_inR A) (c := A ≤ i) (st1 := (190, [(0, .inr (.inr 0)), (1, .inl A), (2, .inl a), (3, .inl k), (4, .inr (.inl ((ri_ax s k 25).2.1))), (6, .inr (.inl ((ri_ax s k 25).2.2))), (8, .inl i)], [], rm g s n)) (st2 := (88, [(0, .inr (.inr 0)), (1, .inl A), (2, .inl a), (3, .inl k), (4, .inr (.inl ((ri_ax s k 25).2.1))), (6, .inr (.inl ((ri_ax s k 25).2.2))), (8, .inl i)], [], rm g s n)) rfl trivial ⟨⟨by omega, by omega⟩, ⟨by omega, by omega⟩⟩ (fun c_85_1 => ?_) (fun c_85_1 => ?_)
    · refine pg_go 2 (L := []) (st' := (35, [(0, .inr (.inr 0)), (1, .inl A), (2, .inl (a + 1)), (3, .inl k), (4, .inr (.inl ((ri_ax s k 25).2.1))), (6, .inr (.inl ((ri_ax s k 25).2.2))), (8, .inl i)], [], rm g s n)) rfl trivial ?_
      refine pg_pick [0, 1, 2] rfl ?_
      refine hK _ rt dp hf (ri_U_iff hU (fun c d => ?_))
      rw [ri_Ea_A, show i = A by omega]
    · exact (by exfalso; omega)
  | succ d ih =>
    intro g rt dp i hd hi hf hU
    have hB := rm_B_fr hB0 hf (by decide)
    obtain ⟨hs, hn, -⟩ := id hB
    obtain ⟨hn1, hn2⟩ := id hn
    have hr := mt_rd_or hs
    have h66 := mt_66 hn1 hn2
    have hN := mt_2rn hs hn
    have hS := ri_S_fr hS0 hf (by decide)
    have hP := ri_P_fr hP0 hf (by decide)
    have e1 : g 1 = g0 1 := hf.1 1 (by decide) (by decide)
    have e3 : g 3 = g0 3 := hf.1 3 (by decide) (by decide)
    have e7 : g 7 = g0 7 := hf.1 7 (by decide) (by decide)
    have e8 : g 8 = g0 8 := hf.1 8 (by decide) (by decide)
    have e5 : g 5 = g0 5 := hf.1 5 (by decide) (by decide)
    have e13 : g 0 13 = g0 0 13 := hf.2 13 (by decide)
    have e6 : g 0 6 = g0 0 6 := hf.2 6 (by decide)
    have hcb := pg_cn_bd (mt_sm (g0 1) s n) (2 * mt_rd s * (n * n)).toNat
    have h6 : g0 0 6 = pg_cn (mt_sm (g0 1) s n) (2 * mt_rd s * (n * n)).toNat := hS0.1
    obtain ⟨hc1, hc2, hc3⟩ := ri_P_c hn hP0
    obtain ⟨m, hm1, hm2, hm3⟩ := pg_cn_ex (show 0 ≤ a by omega) (show a < pg_cn (mt_sm (g0 1) s n) (2 * mt_rd s * (n * n)).toNat by omega)
    have hma0 : g0 3 a.toNat = (m : Int) := by
      have h1 := hS0.2 m (by omega) hm2
      rw [hm3] at h1
      exact h1
    have hma : g 3 a.toNat = (m : Int) := by rw [e3]; exact hma0
    have hka := mt_kof hn1 (show 0 ≤ g 3 a.toNat ∧ g 3 a.toNat < 2 * mt_rd s * (n * n) by omega)
    have eL : (((fun b => (g0 3 b).toNat) a.toNat : Nat) : Int) = g 3 a.toNat := by show (((g0 3 a.toNat).toNat : Nat) : Int) = _; omega
    have et := pg_tmod_nn (x := i) (y := 6 * n) (by omega)
    have ed := pg_tdiv_nn (x := i) (y := 6 * n) (by omega)
    have h6s := mt_6s hn1 (show 0 ≤ i ∧ i < 6 * n * (6 * n) by omega)
    have ei : ((i.toNat : Nat) : Int) = i := by omega
    have e66 : 6 * n * Int.tdiv i (6 * n) + Int.tmod i (6 * n) = i := by rw [ed, et]; exact h6s.2.2
    have epm : mt_pl s n (g 3 a.toNat) (Int.tmod i (6 * n)) (Int.tdiv i (6 * n)) = mt_pm s n ((fun b => (g0 3 b).toNat) a.toNat) i.toNat := by
      unfold mt_pm
      rw [eL, et, ed, ei]
    have hab := ri_ax_bd s k 25 (by omega)
    have enb : ri_nb s n (g 3 a.toNat / (n * n)) i.toNat = (6 * n * ((Int.tdiv i (6 * n) + (ri_ax s k 25).2.2) % (6 * n)) + (Int.tmod i (6 * n) + (ri_ax s k 25).2.1) % (6 * n)) := by
      unfold ri_nb
      rw [ei, et, ed, e3, ← hk]
    have hnb := ri_nb_bd (s := s) (k := g 3 a.toNat / (n * n)) hn1 i.toNat
    rw [enb] at hnb
    have n1 := mt_mod (n := 6 * n) (by omega) (Int.tdiv i (6 * n) + (ri_ax s k 25).2.2)
    have n2 := mt_6q hn1 hn2 n1
    have h7i : 0 ≤ g 7 i.toNat ∧ g 7 i.toNat < g0 0 13 := by
      rw [e7, (hP0.1 i.toNat (by omega)).2.2.2, hP0.2.1]
      exact ⟨ri_cl_nn (fun x hx => mt_pR_rf hs hn hx) (Nat.le_refl _) (by omega), ri_cl_l2 _ _ _⟩
    have h7j : 0 ≤ g 7 (6 * n * ((Int.tdiv i (6 * n) + (ri_ax s k 25).2.2) % (6 * n)) + (Int.tmod i (6 * n) + (ri_ax s k 25).2.1) % (6 * n)).toNat ∧ g 7 (6 * n * ((Int.tdiv i (6 * n) + (ri_ax s k 25).2.2) % (6 * n)) + (Int.tmod i (6 * n) + (ri_ax s k 25).2.1) % (6 * n)).toNat < g0 0 13 := by
      rw [e7, (hP0.1 (6 * n * ((Int.tdiv i (6 * n) + (ri_ax s k 25).2.2) % (6 * n)) + (Int.tmod i (6 * n) + (ri_ax s k 25).2.1) % (6 * n)).toNat (by omega)).2.2.2, hP0.2.1]
      exact ⟨ri_cl_nn (fun x hx => mt_pR_rf hs hn hx) (Nat.le_refl _) (by omega), ri_cl_l2 _ _ _⟩
    have hri := (hU.1 (g 7 i.toNat).toNat (by omega)).1
    have hrj := (hU.1 (g 7 (6 * n * ((Int.tdiv i (6 * n) + (ri_ax s k 25).2.2) % (6 * n)) + (Int.tmod i (6 * n) + (ri_ax s k 25).2.1) % (6 * n)).toNat).toNat (by omega)).1
    refine pg_br 2 (L := []) (P := pg_inR i ∧ pg_inR A) (c := A ≤ i) (st1 := (190, [(0, .inr (.inr 0)), (1, .inl A), (2, .inl a), (3, .inl k), (4, .inr (.inl ((ri_ax s k 25).2.1))), (6, .inr (.inl ((ri_ax s k 25).2.2))), (8, .inl i)], [], rm g s n)) (st2 := (88, [(0, .inr (.inr 0)), (1, .inl A), (2, .inl a), (3, .inl k), (4, .inr (.inl ((ri_ax s k 25).2.1))), (6, .inr (.inl ((ri_ax s k 25).2.2))), (8, .inl i)], [], rm g s n)) rfl trivial ⟨⟨by omega, by omega⟩, ⟨by omega, by omega⟩⟩ (fun c_85_2 => ?_) (fun c_85_2 => ?_)
    · exact (by exfalso; omega)
    · refine pg_ca 2 (L := []) (Mc := pm_T_side) (as := [.inr (.inr 0)]) (h0 := rm g s n) (pc := 94) (lv := [(0, .inr (.inr 0)), (1, .inl A), (2, .inl a), (3, .inl k), (4, .inr (.inl ((ri_ax s k 25).2.1))), (6, .inr (.inl ((ri_ax s k 25).2.2))), (8, .inl i)]) (rest := [.inl i]) rfl trivial (re_side (g := g) (s := s) hn) ?_
      intro r_1 h_1 e_1; rw [e_1.1, e_1.2]
      refine pg_ca 4 (L := [(6 * n) ≠ 0 ∧ pg_inR i ∧ pg_inR (6 * n)]) (Mc := pm_T_side) (as := [.inr (.inr 0)]) (h0 := rm g s n) (pc := 103) (lv := [(0, .inr (.inr 0)), (1, .inl A), (2, .inl a), (3, .inl k), (4, .inr (.inl ((ri_ax s k 25).2.1))), (6, .inr (.inl ((ri_ax s k 25).2.2))), (8, .inl i), (9, .inl (Int.tmod i (6 * n)))]) (rest := [.inl i]) rfl ⟨by omega, ⟨by omega, by omega⟩, ⟨by omega, by omega⟩⟩ (re_side (g := g) (s := s) hn) ?_
      intro r_1 h_1 e_1; rw [e_1.1, e_1.2]
      refine pg_ca 9 (L := [(6 * n) ≠ 0 ∧ pg_inR i ∧ pg_inR (6 * n), 0 ≤ a ∧ a < (1728 : Int)]) (Mc := pm_T_isFixed) (as := [.inr (.inr 0), .inl (g 3 a.toNat), .inl (Int.tmod i (6 * n)), .inl (Int.tdiv i (6 * n))]) (h0 := rm g s n) (pc := 120) (lv := [(0, .inr (.inr 0)), (1, .inl A), (2, .inl a), (3, .inl k), (4, .inr (.inl ((ri_ax s k 25).2.1))), (6, .inr (.inl ((ri_ax s k 25).2.2))), (8, .inl i), (9, .inl (Int.tmod i (6 * n))), (10, .inl (Int.tdiv i (6 * n)))]) (rest := []) rfl ⟨⟨by omega, ⟨by omega, by omega⟩, ⟨by omega, by omega⟩⟩, ⟨by omega, by omega⟩⟩ (re_isFixed (g := g) hB (g 3 a.toNat) (Int.tmod i (6 * n)) (Int.tdiv i (6 * n)) ⟨by omega, by omega⟩ ⟨by omega, by omega⟩ ⟨by omega, by omega⟩) ?_
      intro r_1 h_1 e_1; rw [e_1.1, e_1.2]; have hbx := pg_b_or (mt_pl s n (g 3 a.toNat) (Int.tmod i (6 * n)) (Int.tdiv i (6 * n)) = 6 * n * (Int.tdiv i (6 * n)) + (Int.tmod i (6 * n)))
      refine pg_br 0 (L := []) (P := pg_inR (pg_b (mt_pl s n (g 3 a.toNat) (Int.tmod i (6 * n)) (Int.tdiv i (6 * n)) = 6 * n * (Int.tdiv i (6 * n)) + (Int.tmod i (6 * n))))) (c := (pg_b (mt_pl s n (g 3 a.toNat) (Int.tmod i (6 * n)) (Int.tdiv i (6 * n)) = 6 * n * (Int.tdiv i (6 * n)) + (Int.tmod i (6 * n)))) = 0) (st1 := (184, [(0, .inr (.inr 0)), (1, .inl A), (2, .inl a), (3, .inl k), (4, .inr (.inl ((ri_ax s k 25).2.1))), (6, .inr (.inl ((ri_ax s k 25).2.2))), (8, .inl i), (9, .inl (Int.tmod i (6 * n))), (10, .inl (Int.tdiv i (6 * n)))], [], rm (pg_up (pg_up g 0 15 (mt_x s ((g 3 a.toNat) / (n * n)) (Int.tmod i (6 * n)) (Int.tdiv i (6 * n)))) 0 16 (mt_y s ((g 3 a.toNat) / (n * n)) (Int.tmod i (6 * n)) (Int.tdiv i (6 * n)))) s n)) (st2 := (123, [(0, .inr (.inr 0)), (1, .inl A), (2, .inl a), (3, .inl k), (4, .inr (.inl ((ri_ax s k 25).2.1))), (6, .inr (.inl ((ri_ax s k 25).2.2))), (8, .inl i), (9, .inl (Int.tmod i (6 * n))), (10, .inl (Int.tdiv i (6 * n)))], [], rm (pg_up (pg_up g 0 15 (mt_x s ((g 3 a.toNat) / (n * n)) (Int.tmod i (6 * n)) (Int.tdiv i (6 * n)))) 0 16 (mt_y s ((g 3 a.toNat) / (n * n)) (Int.tmod i (6 * n)) (Int.tdiv i (6 * n)))) s n)) rfl trivial ⟨by omega, by omega⟩ (fun c_120_3 => ?_) (fun c_120_3 => ?_)
      · refine pg_go 2 (L := []) (st' := (82, [(0, .inr (.inr 0)), (1, .inl A), (2, .inl a), (3, .inl k), (4, .inr (.inl ((ri_ax s k 25).2.1))), (6, .inr (.inl ((ri_ax s k 25).2.2))), (8, .inl (i + 1)), (9, .inl (Int.tmod i (6 * n))), (10, .inl (Int.tdiv i (6 * n)))], [], rm (pg_up (pg_up g 0 15 (mt_x s ((g 3 a.toNat) / (n * n)) (Int.tmod i (6 * n)) (Int.tdiv i (6 * n)))) 0 16 (mt_y s ((g 3 a.toNat) / (n * n)) (Int.tmod i (6 * n)) (Int.tdiv i (6 * n)))) s n)) rfl trivial ?_
        refine pg_pick [0, 1, 2, 3, 4, 5, 6] rfl ?_
        refine ih _ rt dp _ (by omega) (by omega) (rf_0 (rf_0 hf (by decide) _) (by decide) _) (ri_U_iff hU (fun c d => ?_))
        rw [ri_Ea_s (by omega) (by omega)]
        constructor
        · rintro (h1 | h1)
          · exact h1
          · exfalso
            have h2 := h1.2.1
            rw [← epm] at h2
            rcases hbx with h3 | h3 <;> omega
        · exact Or.inl
      · refine pg_ca 1 (L := []) (Mc := pm_T_side) (as := [.inr (.inr 0)]) (h0 := rm (pg_up (pg_up g 0 15 (mt_x s ((g 3 a.toNat) / (n * n)) (Int.tmod i (6 * n)) (Int.tdiv i (6 * n)))) 0 16 (mt_y s ((g 3 a.toNat) / (n * n)) (Int.tmod i (6 * n)) (Int.tdiv i (6 * n)))) s n) (pc := 127) (lv := [(0, .inr (.inr 0)), (1, .inl A), (2, .inl a), (3, .inl k), (4, .inr (.inl ((ri_ax s k 25).2.1))), (6, .inr (.inl ((ri_ax s k 25).2.2))), (8, .inl i), (9, .inl (Int.tmod i (6 * n))), (10, .inl (Int.tdiv i (6 * n)))]) (rest := []) rfl trivial (re_side (g := (pg_up (pg_up g 0 15 (mt_x s ((g 3 a.toNat) / (n * n)) (Int.tmod i (6 * n)) (Int.tdiv i (6 * n)))) 0 16 (mt_y s ((g 3 a.toNat) / (n * n)) (Int.tmod i (6 * n)) (Int.tdiv i (6 * n))))) (s := s) hn) ?_
        intro r_1 h_1 e_1; rw [e_1.1, e_1.2]
        refine pg_ca 5 (L := [pg_inR (Int.tdiv i (6 * n))]) (Mc := pm_T_side) (as := [.inr (.inr 0)]) (h0 := rm (pg_up (pg_up g 0 15 (mt_x s ((g 3 a.toNat) / (n * n)) (Int.tmod i (6 * n)) (Int.tdiv i (6 * n)))) 0 16 (mt_y s ((g 3 a.toNat) / (n * n)) (Int.tmod i (6 * n)) (Int.tdiv i (6 * n)))) s n) (pc := 137) (lv := [(0, .inr (.inr 0)), (1, .inl A), (2, .inl a), (3, .inl k), (4, .inr (.inl ((ri_ax s k 25).2.1))), (6, .inr (.inl ((ri_ax s k 25).2.2))), (8, .inl i), (9, .inl (Int.tmod i (6 * n))), (10, .inl (Int.tdiv i (6 * n)))]) (rest := [.inr (.inl ((Int.tdiv i (6 * n)) + ((ri_ax s k 25).2.2))), .inl (6 * n)]) rfl ⟨by omega, by omega⟩ (re_side (g := (pg_up (pg_up g 0 15 (mt_x s ((g 3 a.toNat) / (n * n)) (Int.tmod i (6 * n)) (Int.tdiv i (6 * n)))) 0 16 (mt_y s ((g 3 a.toNat) / (n * n)) (Int.tmod i (6 * n)) (Int.tdiv i (6 * n))))) (s := s) hn) ?_
        intro r_1 h_1 e_1; rw [e_1.1, e_1.2]
        refine pg_ca 0 (L := []) (Mc := pm_T_mod) (as := [.inr (.inl ((Int.tdiv i (6 * n)) + ((ri_ax s k 25).2.2))), .inl (6 * n)]) (h0 := rm (pg_up (pg_up g 0 15 (mt_x s ((g 3 a.toNat) / (n * n)) (Int.tmod i (6 * n)) (Int.tdiv i (6 * n)))) 0 16 (mt_y s ((g 3 a.toNat) / (n * n)) (Int.tmod i (6 * n)) (Int.tdiv i (6 * n)))) s n) (pc := 140) (lv := [(0, .inr (.inr 0)), (1, .inl A), (2, .inl a), (3, .inl k), (4, .inr (.inl ((ri_ax s k 25).2.1))), (6, .inr (.inl ((ri_ax s k 25).2.2))), (8, .inl i), (9, .inl (Int.tmod i (6 * n))), (10, .inl (Int.tdiv i (6 * n)))]) (rest := [.inl (6 * n)]) rfl trivial (re_mod (rm (pg_up (pg_up g 0 15 (mt_x s ((g 3 a.toNat) / (n * n)) (Int.tmod i (6 * n)) (Int.tdiv i (6 * n)))) 0 16 (mt_y s ((g 3 a.toNat) / (n * n)) (Int.tmod i (6 * n)) (Int.tdiv i (6 * n)))) s n) ((Int.tdiv i (6 * n)) + ((ri_ax s k 25).2.2)) (6 * n) ⟨by omega, by omega⟩ ⟨by omega, by omega⟩) ?_
        intro r_1 h_1 e_1; rw [e_1.1, e_1.2]
        have hm_137 := mt_mod (n := (6 * n)) (by omega) ((Int.tdiv i (6 * n)) + ((ri_ax s k 25).2.2))
        refine pg_ca 6 (L := [pg_inR (Int.tmod i (6 * n))]) (Mc := pm_T_side) (as := [.inr (.inr 0)]) (h0 := rm (pg_up (pg_up g 0 15 (mt_x s ((g 3 a.toNat) / (n * n)) (Int.tmod i (6 * n)) (Int.tdiv i (6 * n)))) 0 16 (mt_y s ((g 3 a.toNat) / (n * n)) (Int.tmod i (6 * n)) (Int.tdiv i (6 * n)))) s n) (pc := 151) (lv := [(0, .inr (.inr 0)), (1, .inl A), (2, .inl a), (3, .inl k), (4, .inr (.inl ((ri_ax s k 25).2.1))), (6, .inr (.inl ((ri_ax s k 25).2.2))), (8, .inl i), (9, .inl (Int.tmod i (6 * n))), (10, .inl (Int.tdiv i (6 * n)))]) (rest := [.inr (.inl ((Int.tmod i (6 * n)) + ((ri_ax s k 25).2.1))), .inl ((6 * n) * (((Int.tdiv i (6 * n)) + ((ri_ax s k 25).2.2)) % (6 * n)))]) rfl ⟨by omega, by omega⟩ (re_side (g := (pg_up (pg_up g 0 15 (mt_x s ((g 3 a.toNat) / (n * n)) (Int.tmod i (6 * n)) (Int.tdiv i (6 * n)))) 0 16 (mt_y s ((g 3 a.toNat) / (n * n)) (Int.tmod i (6 * n)) (Int.tdiv i (6 * n))))) (s := s) hn) ?_
        intro r_1 h_1 e_1; rw [e_1.1, e_1.2]
        refine pg_ca 0 (L := []) (Mc := pm_T_mod) (as := [.inr (.inl ((Int.tmod i (6 * n)) + ((ri_ax s k 25).2.1))), .inl (6 * n)]) (h0 := rm (pg_up (pg_up g 0 15 (mt_x s ((g 3 a.toNat) / (n * n)) (Int.tmod i (6 * n)) (Int.tdiv i (6 * n)))) 0 16 (mt_y s ((g 3 a.toNat) / (n * n)) (Int.tmod i (6 * n)) (Int.tdiv i (6 * n)))) s n) (pc := 154) (lv := [(0, .inr (.inr 0)), (1, .inl A), (2, .inl a), (3, .inl k), (4, .inr (.inl ((ri_ax s k 25).2.1))), (6, .inr (.inl ((ri_ax s k 25).2.2))), (8, .inl i), (9, .inl (Int.tmod i (6 * n))), (10, .inl (Int.tdiv i (6 * n)))]) (rest := [.inl ((6 * n) * (((Int.tdiv i (6 * n)) + ((ri_ax s k 25).2.2)) % (6 * n)))]) rfl trivial (re_mod (rm (pg_up (pg_up g 0 15 (mt_x s ((g 3 a.toNat) / (n * n)) (Int.tmod i (6 * n)) (Int.tdiv i (6 * n)))) 0 16 (mt_y s ((g 3 a.toNat) / (n * n)) (Int.tmod i (6 * n)) (Int.tdiv i (6 * n)))) s n) ((Int.tmod i (6 * n)) + ((ri_ax s k 25).2.1)) (6 * n) ⟨by omega, by omega⟩ ⟨by omega, by omega⟩) ?_
        intro r_1 h_1 e_1; rw [e_1.1, e_1.2]
        have hm_151 := mt_mod (n := (6 * n)) (by omega) ((Int.tmod i (6 * n)) + ((ri_ax s k 25).2.1))
        refine pg_ca 9 (L := [0 ≤ i ∧ i < (5184 : Int)]) (Mc := pm_T_partOf) (as := [.inr (.inr 0), .inl (g 7 i.toNat)]) (h0 := rm (pg_up (pg_up g 0 15 (mt_x s ((g 3 a.toNat) / (n * n)) (Int.tmod i (6 * n)) (Int.tdiv i (6 * n)))) 0 16 (mt_y s ((g 3 a.toNat) / (n * n)) (Int.tmod i (6 * n)) (Int.tdiv i (6 * n)))) s n) (pc := 172) (lv := [(0, .inr (.inr 0)), (1, .inl A), (2, .inl a), (3, .inl k), (4, .inr (.inl ((ri_ax s k 25).2.1))), (6, .inr (.inl ((ri_ax s k 25).2.2))), (8, .inl i), (9, .inl (Int.tmod i (6 * n))), (10, .inl (Int.tdiv i (6 * n))), (11, .inl (((6 * n) * (((Int.tdiv i (6 * n)) + ((ri_ax s k 25).2.2)) % (6 * n))) + (((Int.tmod i (6 * n)) + ((ri_ax s k 25).2.1)) % (6 * n))))]) (rest := [.inr (.inr 15)]) rfl ⟨by omega, by omega⟩ (re_partOf (g := (pg_up (pg_up g 0 15 (mt_x s ((g 3 a.toNat) / (n * n)) (Int.tmod i (6 * n)) (Int.tdiv i (6 * n)))) 0 16 (mt_y s ((g 3 a.toNat) / (n * n)) (Int.tmod i (6 * n)) (Int.tdiv i (6 * n))))) (s := s) (n := n) hU (by omega) (g 7 i.toNat) ⟨by omega, by omega⟩) ?_
        intro r_1 h_1 e_1; rw [e_1.1, e_1.2]
        refine pg_ca 5 (L := [0 ≤ (((6 * n) * (((Int.tdiv i (6 * n)) + ((ri_ax s k 25).2.2)) % (6 * n))) + (((Int.tmod i (6 * n)) + ((ri_ax s k 25).2.1)) % (6 * n))) ∧ (((6 * n) * (((Int.tdiv i (6 * n)) + ((ri_ax s k 25).2.2)) % (6 * n))) + (((Int.tmod i (6 * n)) + ((ri_ax s k 25).2.1)) % (6 * n))) < (5184 : Int)]) (Mc := pm_T_partOf) (as := [.inr (.inr 0), .inl (g 7 ((((6 * n) * (((Int.tdiv i (6 * n)) + ((ri_ax s k 25).2.2)) % (6 * n))) + (((Int.tmod i (6 * n)) + ((ri_ax s k 25).2.1)) % (6 * n))).toNat))]) (h0 := rm (pg_up (pg_up g 0 15 (mt_x s ((g 3 a.toNat) / (n * n)) (Int.tmod i (6 * n)) (Int.tdiv i (6 * n)))) 0 16 (mt_y s ((g 3 a.toNat) / (n * n)) (Int.tmod i (6 * n)) (Int.tdiv i (6 * n)))) s n) (pc := 183) (lv := [(0, .inr (.inr 0)), (1, .inl A), (2, .inl a), (3, .inl k), (4, .inr (.inl ((ri_ax s k 25).2.1))), (6, .inr (.inl ((ri_ax s k 25).2.2))), (8, .inl i), (9, .inl (Int.tmod i (6 * n))), (10, .inl (Int.tdiv i (6 * n))), (11, .inl (((6 * n) * (((Int.tdiv i (6 * n)) + ((ri_ax s k 25).2.2)) % (6 * n))) + (((Int.tmod i (6 * n)) + ((ri_ax s k 25).2.1)) % (6 * n))))]) (rest := [.inl ((rt (g 7 i.toNat).toNat : Nat) : Int), .inr (.inr 15)]) rfl ⟨by omega, by omega⟩ (re_partOf (g := (pg_up (pg_up g 0 15 (mt_x s ((g 3 a.toNat) / (n * n)) (Int.tmod i (6 * n)) (Int.tdiv i (6 * n)))) 0 16 (mt_y s ((g 3 a.toNat) / (n * n)) (Int.tmod i (6 * n)) (Int.tdiv i (6 * n))))) (s := s) (n := n) hU (by omega) (g 7 ((((6 * n) * (((Int.tdiv i (6 * n)) + ((ri_ax s k 25).2.2)) % (6 * n))) + (((Int.tmod i (6 * n)) + ((ri_ax s k 25).2.1)) % (6 * n))).toNat)) ⟨by omega, by omega⟩) ?_
        intro r_1 h_1 e_1; rw [e_1.1, e_1.2]
        refine pg_go 3 (L := [0 ≤ ((rt (g 7 i.toNat).toNat : Nat) : Int) ∧ ((rt (g 7 i.toNat).toNat : Nat) : Int) < (5184 : Int)]) (st' := (82, [(0, .inr (.inr 0)), (1, .inl A), (2, .inl a), (3, .inl k), (4, .inr (.inl ((ri_ax s k 25).2.1))), (6, .inr (.inl ((ri_ax s k 25).2.2))), (8, .inl (i + 1)), (9, .inl (Int.tmod i (6 * n))), (10, .inl (Int.tdiv i (6 * n))), (11, .inl (((6 * n) * (((Int.tdiv i (6 * n)) + ((ri_ax s k 25).2.2)) % (6 * n))) + (((Int.tmod i (6 * n)) + ((ri_ax s k 25).2.1)) % (6 * n))))], [], pg_up (rm (pg_up (pg_up g 0 15 (mt_x s ((g 3 a.toNat) / (n * n)) (Int.tmod i (6 * n)) (Int.tdiv i (6 * n)))) 0 16 (mt_y s ((g 3 a.toNat) / (n * n)) (Int.tmod i (6 * n)) (Int.tdiv i (6 * n)))) s n) 15 (((rt (g 7 i.toNat).toNat : Nat) : Int).toNat) ((rt (g 7 ((((6 * n) * (((Int.tdiv i (6 * n)) + ((ri_ax s k 25).2.2)) % (6 * n))) + (((Int.tmod i (6 * n)) + ((ri_ax s k 25).2.1)) % (6 * n))).toNat)).toNat : Nat) : Int))) rfl ⟨by omega, by omega⟩ ?_
        rw [rm_upq (q := 15) (by decide)]
        refine pg_pick [0, 1, 2, 3, 4, 5, 6] rfl ?_
        obtain ⟨rt2, dp2, hU2⟩ := ri_U_add hU (x := (g 7 i.toNat).toNat) (y := (g 7 (6 * n * ((Int.tdiv i (6 * n) + (ri_ax s k 25).2.2) % (6 * n)) + (Int.tmod i (6 * n) + (ri_ax s k 25).2.1) % (6 * n)).toNat).toNat) (by omega) (by omega)
        refine ih _ rt2 dp2 _ (by omega) (by omega) (rf_q (rf_0 (rf_0 hf (by decide) _) (by decide) _) (by decide) (by decide) _ _) ?_
        have eF : pg_up g 15 (((rt (g 7 i.toNat).toNat : Nat) : Int)).toNat ((rt (g 7 (6 * n * ((Int.tdiv i (6 * n) + (ri_ax s k 25).2.2) % (6 * n)) + (Int.tmod i (6 * n) + (ri_ax s k 25).2.1) % (6 * n)).toNat).toNat : Nat) : Int) 15 = (fun p => if p = rt (g 7 i.toNat).toNat then ((rt (g 7 (6 * n * ((Int.tdiv i (6 * n) + (ri_ax s k 25).2.2) % (6 * n)) + (Int.tmod i (6 * n) + (ri_ax s k 25).2.1) % (6 * n)).toNat).toNat : Nat) : Int) else g 15 p) := by
          funext p
          rw [pg_up_at, Int.toNat_natCast]
        show ri_U (pg_up g 15 (((rt (g 7 i.toNat).toNat : Nat) : Int)).toNat ((rt (g 7 (6 * n * ((Int.tdiv i (6 * n) + (ri_ax s k 25).2.2) % (6 * n)) + (Int.tmod i (6 * n) + (ri_ax s k 25).2.1) % (6 * n)).toNat).toNat : Nat) : Int) 15) _ _ _ _
        rw [eF]
        refine ri_U_iff hU2 (fun c d => ?_)
        rw [ri_Ea_s (by omega) (by omega)]
        have hed : ri_ed (fun b => (g0 3 b).toNat) (g0 7) s n a.toNat i.toNat c d ↔ (c = (g 7 i.toNat).toNat ∧ d = (g 7 (6 * n * ((Int.tdiv i (6 * n) + (ri_ax s k 25).2.2) % (6 * n)) + (Int.tmod i (6 * n) + (ri_ax s k 25).2.1) % (6 * n)).toNat).toNat) := by
          unfold ri_ed
          rw [← epm, eL, ← enb, e7]
          constructor
          · rintro ⟨-, -, h3, h4⟩; exact ⟨h3, h4⟩
          · rintro ⟨h3, h4⟩
            refine ⟨by rw [e3, ← hk]; exact hkr, ?_, h3, h4⟩
            rcases hbx with h5 | h5 <;> omega
        rw [hed]
set_option maxRecDepth 20000 in
set_option maxHeartbeats 8000000 in
theorem re_ce_s {g0 : pg_H} {s n : Int} (hB0 : rm_B g0 s n) (hS0 : ri_S g0 s n) (hP0 : ri_P g0 s n) {A : Int} (hA : A = 6 * n * (6 * n)) : ∀ (d : Nat) (g : pg_H) (rt dp : Nat → Nat) (a : Int) (hd : a + (d : Int) = pg_cn (mt_sm (g0 1) s n) (2 * mt_rd s * (n * n)).toNat) (ha : 0 ≤ a) (hf : rf [15] [15, 16, 23, 24] g0 g) (hU : ri_U (g 15) (g0 0 13).toNat (ri_Ea (fun b => (g0 3 b).toNat) (g0 7) s n A a 0) rt dp), pg_Good false pm_T_countEdges (fun r h' => ∃ (g' : pg_H) (z : Int), h' = rm g' s n ∧ rf [15] [15, 16, 23, 24] g0 g' ∧ r = some (.inl z) ∧ (0 ≤ z ∧ z ≤ 5184) ∧ ri_ec (g0 1) s n z) (35, [(0, .inr (.inr 0)), (1, .inl A), (2, .inl a)], [], rm g s n) := by
  intro d
  induction d with
  | zero =>
    intro g rt dp a hd ha hf hU
    have hB := rm_B_fr hB0 hf (by decide)
    obtain ⟨hs, hn, -⟩ := id hB
    obtain ⟨hn1, hn2⟩ := id hn
    have hr := mt_rd_or hs
    have h66 := mt_66 hn1 hn2
    have hN := mt_2rn hs hn
    have hS := ri_S_fr hS0 hf (by decide)
    have hP := ri_P_fr hP0 hf (by decide)
    have e1 : g 1 = g0 1 := hf.1 1 (by decide) (by decide)
    have e3 : g 3 = g0 3 := hf.1 3 (by decide) (by decide)
    have e7 : g 7 = g0 7 := hf.1 7 (by decide) (by decide)
    have e8 : g 8 = g0 8 := hf.1 8 (by decide) (by decide)
    have e5 : g 5 = g0 5 := hf.1 5 (by decide) (by decide)
    have e13 : g 0 13 = g0 0 13 := hf.2 13 (by decide)
    have e6 : g 0 6 = g0 0 6 := hf.2 6 (by decide)
    have hcb := pg_cn_bd (mt_sm (g0 1) s n) (2 * mt_rd s * (n * n)).toNat
    have h6 : g0 0 6 = pg_cn (mt_sm (g0 1) s n) (2 * mt_rd s * (n * n)).toNat := hS0.1
    obtain ⟨hc1, hc2, hc3⟩ := ri_P_c hn hP0
    refine pg_br 3 (L := []) (P := pg_inR a ∧ pg_inR (g 0 6)) (c := (g 0 6) ≤ a) (st1 := (196, [(0, .inr (.inr 0)), (1, .inl A), (2, .inl a)], [], rm g s n)) (st2 := (43, [(0, .inr (.inr 0)), (1, .inl A), (2, .inl a)], [], rm g s n)) rfl trivial ⟨⟨by omega, by omega⟩, ⟨by omega, by omega⟩⟩ (fun c_40_1 => ?_) (fun c_40_1 => ?_)
    · refine pg_go 4 (L := []) (st' := (200, [(0, .inr (.inr 0)), (1, .inl A), (2, .inl 0), (3, .inl 0)], [], rm g s n)) rfl trivial ?_
      refine re_ce_c hB0 hS0 hP0 hf (ri_U_iff hU (fun c d => ?_)) (g0 0 13).toNat 0 0 (by omega) (by omega) rfl
      rw [hA, show a = pg_cn (mt_sm (g0 1) s n) (2 * mt_rd s * (n * n)).toNat by omega]
      exact ri_Ea_end (fun m h2 => hS0.2 m (by omega)) hn1 (fun j hj => (hP0.1 j hj).2.2.2) c d
    · exact (by exfalso; omega)
  | succ d ih =>
    intro g rt dp a hd ha hf hU
    have hB := rm_B_fr hB0 hf (by decide)
    obtain ⟨hs, hn, -⟩ := id hB
    obtain ⟨hn1, hn2⟩ := id hn
    have hr := mt_rd_or hs
    have h66 := mt_66 hn1 hn2
    have hN := mt_2rn hs hn
    have hS := ri_S_fr hS0 hf (by decide)
    have hP := ri_P_fr hP0 hf (by decide)
    have e1 : g 1 = g0 1 := hf.1 1 (by decide) (by decide)
    have e3 : g 3 = g0 3 := hf.1 3 (by decide) (by decide)
    have e7 : g 7 = g0 7 := hf.1 7 (by decide) (by decide)
    have e8 : g 8 = g0 8 := hf.1 8 (by decide) (by decide)
    have e5 : g 5 = g0 5 := hf.1 5 (by decide) (by decide)
    have e13 : g 0 13 = g0 0 13 := hf.2 13 (by decide)
    have e6 : g 0 6 = g0 0 6 := hf.2 6 (by decide)
    have hcb := pg_cn_bd (mt_sm (g0 1) s n) (2 * mt_rd s * (n * n)).toNat
    have h6 : g0 0 6 = pg_cn (mt_sm (g0 1) s n) (2 * mt_rd s * (n * n)).toNat := hS0.1
    obtain ⟨hc1, hc2, hc3⟩ := ri_P_c hn hP0
    obtain ⟨m, hm1, hm2, hm3⟩ := pg_cn_ex (show 0 ≤ a by omega) (show a < pg_cn (mt_sm (g0 1) s n) (2 * mt_rd s * (n * n)).toNat by omega)
    have hma0 : g0 3 a.toNat = (m : Int) := by
      have h1 := hS0.2 m (by omega) hm2
      rw [hm3] at h1
      exact h1
    have hma : g 3 a.toNat = (m : Int) := by rw [e3]; exact hma0
    have hka := mt_kof hn1 (show 0 ≤ g 3 a.toNat ∧ g 3 a.toNat < 2 * mt_rd s * (n * n) by omega)
    have eL : (((fun b => (g0 3 b).toNat) a.toNat : Nat) : Int) = g 3 a.toNat := by show (((g0 3 a.toNat).toNat : Nat) : Int) = _; omega
    have hgk : g0 3 a.toNat / (n * n) = g 3 a.toNat / (n * n) := by rw [e3]
    refine pg_br 3 (L := []) (P := pg_inR a ∧ pg_inR (g 0 6)) (c := (g 0 6) ≤ a) (st1 := (196, [(0, .inr (.inr 0)), (1, .inl A), (2, .inl a)], [], rm g s n)) (st2 := (43, [(0, .inr (.inr 0)), (1, .inl A), (2, .inl a)], [], rm g s n)) rfl trivial ⟨⟨by omega, by omega⟩, ⟨by omega, by omega⟩⟩ (fun c_40_2 => ?_) (fun c_40_2 => ?_)
    · exact (by exfalso; omega)
    · refine pg_ca 5 (L := [0 ≤ a ∧ a < (1728 : Int)]) (Mc := pm_T_kOf) (as := [.inr (.inr 0), .inl (g 3 a.toNat)]) (h0 := rm g s n) (pc := 53) (lv := [(0, .inr (.inr 0)), (1, .inl A), (2, .inl a)]) (rest := []) rfl ⟨by omega, by omega⟩ (re_kOf (g := g) (s := s) hn (g 3 a.toNat) ⟨by omega, by omega⟩) ?_
      intro r_1 h_1 e_1; rw [e_1.1, e_1.2]
      refine pg_ca 3 (L := []) (Mc := pm_T_round) (as := [.inr (.inr 0)]) (h0 := rm g s n) (pc := 59) (lv := [(0, .inr (.inr 0)), (1, .inl A), (2, .inl a), (3, .inl ((g 3 a.toNat) / (n * n)))]) (rest := [.inl ((g 3 a.toNat) / (n * n))]) rfl trivial (re_round (g := g) (n := n) hs) ?_
      intro r_1 h_1 e_1; rw [e_1.1, e_1.2]
      refine pg_br 0 (L := []) (P := pg_inR ((g 3 a.toNat) / (n * n)) ∧ pg_inR (mt_rd s)) (c := ((g 3 a.toNat) / (n * n)) < (mt_rd s)) (st1 := (190, [(0, .inr (.inr 0)), (1, .inl A), (2, .inl a), (3, .inl ((g 3 a.toNat) / (n * n)))], [], rm g s n)) (st2 := (62, [(0, .inr (.inr 0)), (1, .inl A), (2, .inl a), (3, .inl ((g 3 a.toNat) / (n * n)))], [], rm g s n)) rfl trivial ⟨⟨by omega, by omega⟩, ⟨by omega, by omega⟩⟩ (fun c_59_3 => ?_) (fun c_59_3 => ?_)
      · refine pg_go 2 (L := []) (st' := (35, [(0, .inr (.inr 0)), (1, .inl A), (2, .inl (a + 1)), (3, .inl ((g 3 a.toNat) / (n * n)))], [], rm g s n)) rfl trivial ?_
        refine pg_pick [0, 1, 2] rfl ?_
        refine ih _ rt dp _ (by omega) (by omega) hf (ri_U_iff hU (fun c d => ?_))
        exact ri_Ea_no (by omega) (by rw [eL]; omega) c d
      · refine pg_ca 2 (L := []) (Mc := pm_T_findAxis) (as := [.inr (.inr 0), .inl ((g 3 a.toNat) / (n * n))]) (h0 := rm g s n) (pc := 67) (lv := [(0, .inr (.inr 0)), (1, .inl A), (2, .inl a), (3, .inl ((g 3 a.toNat) / (n * n)))]) (rest := []) rfl trivial (re_findAxis (g := g) hB ((g 3 a.toNat) / (n * n)) ⟨by omega, by omega⟩) ?_
        intro r_1 h_1 e_1; obtain ⟨er_, gx, eh_, efx, ex3, ex4⟩ := e_1; rw [er_, eh_]
        refine pg_go 8 (L := []) (st' := (82, [(0, .inr (.inr 0)), (1, .inl A), (2, .inl a), (3, .inl ((g 3 a.toNat) / (n * n))), (4, .inr (.inl (gx 0 23))), (6, .inr (.inl (gx 0 24))), (8, .inl 0)], [], rm gx s n)) rfl trivial ?_
        rw [ex3, ex4]
        have hfx : rf [15] [15, 16, 23, 24] g0 gx := rf_tr hf efx (by decide) (by decide)
        refine re_ce_p hB0 hS0 hP0 (a := a) hA (by omega) (by rw [hgk]) (by omega) ?_ A.toNat gx rt dp 0 (by omega) (by omega) hfx ?_
        · intro g2 rt2 dp2 k1 k2
          exact ih g2 rt2 dp2 _ (by omega) (by omega) k1 k2
        · rw [efx.1 15 (by decide) (by decide)]; exact hU
set_option maxRecDepth 20000 in
set_option maxHeartbeats 4000000 in
theorem re_ce_i {g0 : pg_H} {s n : Int} (hB0 : rm_B g0 s n) (hS0 : ri_S g0 s n) (hP0 : ri_P g0 s n) : ∀ (d : Nat) (g : pg_H) (c : Int) (hd : c + (d : Int) = g0 0 13) (hc : 0 ≤ c) (hf : rf [15] [15, 16, 23, 24] g0 g) (hI : ∀ j : Nat, (j : Int) < c → g 15 j = j), pg_Good false pm_T_countEdges (fun r h' => ∃ (g' : pg_H) (z : Int), h' = rm g' s n ∧ rf [15] [15, 16, 23, 24] g0 g' ∧ r = some (.inl z) ∧ (0 ≤ z ∧ z ≤ 5184) ∧ ri_ec (g0 1) s n z) (2, [(0, .inr (.inr 0)), (1, .inl c)], [], rm g s n) := by
  intro d
  induction d with
  | zero =>
    intro g c hd hc hf hI
    have hB := rm_B_fr hB0 hf (by decide)
    obtain ⟨hs, hn, -⟩ := id hB
    obtain ⟨hn1, hn2⟩ := id hn
    have hr := mt_rd_or hs
    have h66 := mt_66 hn1 hn2
    have hN := mt_2rn hs hn
    have hS := ri_S_fr hS0 hf (by decide)
    have hP := ri_P_fr hP0 hf (by decide)
    have e1 : g 1 = g0 1 := hf.1 1 (by decide) (by decide)
    have e3 : g 3 = g0 3 := hf.1 3 (by decide) (by decide)
    have e7 : g 7 = g0 7 := hf.1 7 (by decide) (by decide)
    have e8 : g 8 = g0 8 := hf.1 8 (by decide) (by decide)
    have e5 : g 5 = g0 5 := hf.1 5 (by decide) (by decide)
    have e13 : g 0 13 = g0 0 13 := hf.2 13 (by decide)
    have e6 : g 0 6 = g0 0 6 := hf.2 6 (by decide)
    have hcb := pg_cn_bd (mt_sm (g0 1) s n) (2 * mt_rd s * (n * n)).toNat
    have h6 : g0 0 6 = pg_cn (mt_sm (g0 1) s n) (2 * mt_rd s * (n * n)).toNat := hS0.1
    obtain ⟨hc1, hc2, hc3⟩ := ri_P_c hn hP0
    refine pg_br 3 (L := []) (P := pg_inR c ∧ pg_inR (g 0 13)) (c := (g 0 13) ≤ c) (st1 := (23, [(0, .inr (.inr 0)), (1, .inl c)], [], rm g s n)) (st2 := (10, [(0, .inr (.inr 0)), (1, .inl c)], [], rm g s n)) rfl trivial ⟨⟨by omega, by omega⟩, ⟨by omega, by omega⟩⟩ (fun c_7_1 => ?_) (fun c_7_1 => ?_)
    · refine pg_ca 1 (L := []) (Mc := pm_T_side) (as := [.inr (.inr 0)]) (h0 := rm g s n) (pc := 27) (lv := [(0, .inr (.inr 0)), (1, .inl c)]) (rest := []) rfl trivial (re_side (g := g) (s := s) hn) ?_
      intro r_1 h_1 e_1; rw [e_1.1, e_1.2]
      refine pg_ca 1 (L := []) (Mc := pm_T_side) (as := [.inr (.inr 0)]) (h0 := rm g s n) (pc := 31) (lv := [(0, .inr (.inr 0)), (1, .inl c)]) (rest := [.inl (6 * n)]) rfl trivial (re_side (g := g) (s := s) hn) ?_
      intro r_1 h_1 e_1; rw [e_1.1, e_1.2]
      refine pg_go 4 (L := []) (st' := (35, [(0, .inr (.inr 0)), (1, .inl ((6 * n) * (6 * n))), (2, .inl 0)], [], rm g s n)) rfl trivial ?_
      refine re_ce_s hB0 hS0 hP0 rfl (pg_cn (mt_sm (g0 1) s n) (2 * mt_rd s * (n * n)).toNat).toNat g (fun p => p) (fun _ => 0) 0 (by omega) (by omega) hf ⟨fun p hp => ⟨hp, hI p (by omega), rfl, fun _ => rfl, fun h => absurd (hI p (by omega)) h⟩, ?_, fun f hf c hc => rfl⟩
      rintro c d ⟨b, j, h1, -, -⟩; omega
    · exact (by exfalso; omega)
  | succ d ih =>
    intro g c hd hc hf hI
    have hB := rm_B_fr hB0 hf (by decide)
    obtain ⟨hs, hn, -⟩ := id hB
    obtain ⟨hn1, hn2⟩ := id hn
    have hr := mt_rd_or hs
    have h66 := mt_66 hn1 hn2
    have hN := mt_2rn hs hn
    have hS := ri_S_fr hS0 hf (by decide)
    have hP := ri_P_fr hP0 hf (by decide)
    have e1 : g 1 = g0 1 := hf.1 1 (by decide) (by decide)
    have e3 : g 3 = g0 3 := hf.1 3 (by decide) (by decide)
    have e7 : g 7 = g0 7 := hf.1 7 (by decide) (by decide)
    have e8 : g 8 = g0 8 := hf.1 8 (by decide) (by decide)
    have e5 : g 5 = g0 5 := hf.1 5 (by decide) (by decide)
    have e13 : g 0 13 = g0 0 13 := hf.2 13 (by decide)
    have e6 : g 0 6 = g0 0 6 := hf.2 6 (by decide)
    have hcb := pg_cn_bd (mt_sm (g0 1) s n) (2 * mt_rd s * (n * n)).toNat
    have h6 : g0 0 6 = pg_cn (mt_sm (g0 1) s n) (2 * mt_rd s * (n * n)).toNat := hS0.1
    obtain ⟨hc1, hc2, hc3⟩ := ri_P_c hn hP0
    refine pg_br 3 (L := []) (P := pg_inR c ∧ pg_inR (g 0 13)) (c := (g 0 13) ≤ c) (st1 := (23, [(0, .inr (.inr 0)), (1, .inl c)], [], rm g s n)) (st2 := (10, [(0, .inr (.inr 0)), (1, .inl c)], [], rm g s n)) rfl trivial ⟨⟨by omega, by omega⟩, ⟨by omega, by omega⟩⟩ (fun c_7_2 => ?_) (fun c_7_2 => ?_)
    · exact (by exfalso; omega)
    · refine pg_go 7 (L := [0 ≤ c ∧ c < (5184 : Int)]) (st' := (2, [(0, .inr (.inr 0)), (1, .inl (c + 1))], [], pg_up (rm g s n) 15 c.toNat c)) rfl ⟨by omega, by omega⟩ ?_
      rw [rm_upq (q := 15) (by decide)]
      refine ih _ _ (by omega) (by omega) (rf_q hf (by decide) (by decide) _ _) (fun j hj => ?_)
      rw [pg_up_at]
      split
      · omega
      · exact hI j (by omega)
theorem re_countEdges {g : pg_H} {s n : Int} (hB : rm_B g s n) (hS : ri_S g s n) (hP : ri_P g s n) : pg_Sem false pm_T_countEdges [.inr (.inr 0)] (rm g s n) (fun r h' => ∃ (g' : pg_H) (z : Int), h' = rm g' s n ∧ rf [15] [15, 16, 23, 24] g g' ∧ r = some (.inl z) ∧ (0 ≤ z ∧ z ≤ 5184) ∧ ri_ec (g 1) s n z) := by
  obtain ⟨hs, hn, hT⟩ := id hB
  obtain ⟨hn1, hn2⟩ := id hn
  have hr := mt_rd_or hs
  obtain ⟨hc1, hc2, hc3⟩ := ri_P_c hn hP
  refine pg_Sem_of pm_T_countEdges_f rfl ?_
  refine pg_go 2 (L := []) (st' := (2, [(0, .inr (.inr 0)), (1, .inl 0)], [], rm g s n)) rfl trivial ?_
  exact re_ce_i hB hS hP (g 0 13).toNat g 0 (by omega) (by omega) (rf_rf _ _ _) (fun j hj => absurd hj (by omega))
