/-! the reference: findPlaces -/
/-- a symmetry takes place j to place x -/
def mt_pR (col : Nat → Int) (s n : Int) (j x : Nat) : Prop := ∃ m : Nat, m < (2 * mt_rd s * (n * n)).toNat ∧ mt_sm col s n m ∧ mt_pm s n m j = x
/-- the numbers of the classes, as they are given out -/
noncomputable def ri_cl (R : Nat → Nat → Prop) : Nat → (Nat → Int) × Int
  | 0 => (fun _ => -1, 0)
  | i + 1 => @ite _ ((ri_cl R i).1 i < 0) (Classical.propDecidable _) (fun x => pg_if (R i x) (ri_cl R i).2 ((ri_cl R i).1 x), (ri_cl R i).2 + 1) (ri_cl R i)
theorem ri_cl_t {R : Nat → Nat → Prop} {i : Nat} (h : (ri_cl R i).1 i < 0) : ri_cl R (i + 1) = (fun x => pg_if (R i x) (ri_cl R i).2 ((ri_cl R i).1 x), (ri_cl R i).2 + 1) := if_pos h
theorem ri_cl_f {R : Nat → Nat → Prop} {i : Nat} (h : ¬ (ri_cl R i).1 i < 0) : ri_cl R (i + 1) = ri_cl R i := if_neg h
theorem ri_cl_bd (R : Nat → Nat → Prop) (i : Nat) : (0 ≤ (ri_cl R i).2 ∧ (ri_cl R i).2 ≤ i) ∧ ∀ x, -1 ≤ (ri_cl R i).1 x ∧ (ri_cl R i).1 x < i := by
  induction i with
  | zero => exact ⟨⟨Int.le_refl _, Int.le_refl _⟩, fun x => ⟨Int.le_refl _, by show (-1 : Int) < 0; decide⟩⟩
  | succ i ih =>
    rcases Classical.em ((ri_cl R i).1 i < 0) with h | h
    · rw [ri_cl_t h]
      refine ⟨⟨?_, ?_⟩, fun x => ?_⟩
      · show 0 ≤ (ri_cl R i).2 + 1
        omega
      · show (ri_cl R i).2 + 1 ≤ ((i + 1 : Nat) : Int)
        omega
      · show -1 ≤ pg_if (R i x) (ri_cl R i).2 ((ri_cl R i).1 x) ∧ pg_if (R i x) (ri_cl R i).2 ((ri_cl R i).1 x) < ((i + 1 : Nat) : Int)
        have := ih.2 x
        rcases Classical.em (R i x) with hc | hc
        · rw [pg_if_t hc]; omega
        · rw [pg_if_f hc]; omega
    · rw [ri_cl_f h]
      refine ⟨by omega, fun x => ?_⟩
      have := ih.2 x
      omega
def mt_ft (col : Nat → Int) (s n : Int) (i m : Nat) : Prop := mt_sm col s n m ∧ (mt_pm s n m i = i ∧ (m : Int) / (n * n) < mt_rd s)
def mt_fm (col : Nat → Int) (s n : Int) (i m : Nat) : Prop := mt_sm col s n m ∧ (mt_pm s n m i = i ∧ ¬ (m : Int) / (n * n) < mt_rd s)
def mt_fk (col : Nat → Int) (s n : Int) (i k : Nat) : Prop := ∃ m : Nat, m < (2 * mt_rd s * (n * n)).toNat ∧ mt_sm col s n m ∧ (mt_pm s n m i = i ∧ (m : Int) / (n * n) = k)
/-- what is known of the places -/
def ri_P (g : pg_H) (s n : Int) : Prop := (∀ i : Nat, (i : Int) < 6 * n * (6 * n) → g 4 i = pg_cn (mt_ft (g 1) s n i) (2 * mt_rd s * (n * n)).toNat ∧ g 5 i = pg_cn (mt_fm (g 1) s n i) (2 * mt_rd s * (n * n)).toNat ∧ ri_mk (g 6 i) (mt_fk (g 1) s n i) ∧ g 7 i = (ri_cl (mt_pR (g 1) s n) (6 * n * (6 * n)).toNat).1 i) ∧ g 0 13 = (ri_cl (mt_pR (g 1) s n) (6 * n * (6 * n)).toNat).2 ∧ ∀ i : Nat, (i : Int) < 6 * n * (6 * n) → (ri_cl (mt_pR (g 1) s n) i).1 i < 0 → g 8 (ri_cl (mt_pR (g 1) s n) i).2.toNat = i
def ri_J (g : pg_H) (s n : Int) : Prop := g 0 8 = 0 ∨ (g 0 8 = 1 ∧ g 0 7 = 1 ∧ ri_S g s n ∧ ri_P g s n)
theorem ri_P_fr {cs fs : List Nat} {g g' : pg_H} {s n : Int} (hP : ri_P g s n) (hf : rf cs fs g g') (h : 1 ∉ cs ∧ 4 ∉ cs ∧ 5 ∉ cs ∧ 6 ∉ cs ∧ 7 ∉ cs ∧ 8 ∉ cs ∧ 13 ∉ fs) : ri_P g' s n := by
  unfold ri_P
  rw [hf.1 1 (by decide) h.1, hf.1 4 (by decide) h.2.1, hf.1 5 (by decide) h.2.2.1, hf.1 6 (by decide) h.2.2.2.1, hf.1 7 (by decide) h.2.2.2.2.1, hf.1 8 (by decide) h.2.2.2.2.2.1, hf.2 13 h.2.2.2.2.2.2]
  exact hP
/-- what a moves of the list L say of place i -/
def ri_Va (L : Nat → Nat) (s n : Int) (i a : Nat) (x4 x5 x6 : Int) : Prop := x4 = pg_cn (fun b => mt_pm s n (L b) i = i ∧ ((L b : Nat) : Int) / (n * n) < mt_rd s) a ∧ x5 = pg_cn (fun b => mt_pm s n (L b) i = i ∧ ¬ ((L b : Nat) : Int) / (n * n) < mt_rd s) a ∧ ri_mk x6 (fun k => ∃ b : Nat, b < a ∧ mt_pm s n (L b) i = i ∧ ((L b : Nat) : Int) / (n * n) = k)
theorem ri_Va_0 {L : Nat → Nat} {s n : Int} {i : Nat} : ri_Va L s n i 0 0 0 0 := ⟨rfl, rfl, 0, by decide, rfl, fun k hk => by simp⟩
theorem ri_Va_no {L : Nat → Nat} {s n : Int} {i a : Nat} {x4 x5 x6 : Int} (hv : ri_Va L s n i a x4 x5 x6) (hf : ¬ mt_pm s n (L a) i = i) : ri_Va L s n i (a + 1) x4 x5 x6 := by
  refine ⟨?_, ?_, ri_mk_iff hv.2.2 (fun k hk => ?_)⟩
  · simp only [pg_cn]; rw [pg_b_f (fun h => hf h.1), Int.add_zero]; exact hv.1
  · simp only [pg_cn]; rw [pg_b_f (fun h => hf h.1), Int.add_zero]; exact hv.2.1
  · constructor
    · rintro ⟨b, h1, h2⟩; exact ⟨b, by omega, h2⟩
    · rintro ⟨b, h1, h2⟩
      rcases (show b < a ∨ b = a by omega) with h | rfl
      · exact ⟨b, h, h2⟩
      · exact absurd h2.1 hf
theorem ri_Va_k {L : Nat → Nat} {s n : Int} {i a : Nat} {x6 : Int} (hv : ri_mk x6 (fun k => ∃ b : Nat, b < a ∧ mt_pm s n (L b) i = i ∧ ((L b : Nat) : Int) / (n * n) = k)) (hf : mt_pm s n (L a) i = i) (hk : 0 ≤ ((L a : Nat) : Int) / (n * n) ∧ ((L a : Nat) : Int) / (n * n) < 12) : ri_mk (pg_or x6 (pg_shl 1 (((L a : Nat) : Int) / (n * n)))) (fun k => ∃ b : Nat, b < a + 1 ∧ mt_pm s n (L b) i = i ∧ ((L b : Nat) : Int) / (n * n) = k) := by
  refine ri_mk_iff (ri_mk_or hv hk) (fun k _ => ?_)
  constructor
  · rintro (⟨b, h1, h2⟩ | h)
    · exact ⟨b, by omega, h2⟩
    · exact ⟨a, by omega, hf, h.symm⟩
  · rintro ⟨b, h1, h2, h3⟩
    rcases (show b < a ∨ b = a by omega) with h | rfl
    · exact Or.inl ⟨b, h, h2, h3⟩
    · exact Or.inr h3.symm
theorem ri_Va_t {L : Nat → Nat} {s n : Int} {i a : Nat} {x4 x5 x6 : Int} (hv : ri_Va L s n i a x4 x5 x6) (hf : mt_pm s n (L a) i = i) (hk : 0 ≤ ((L a : Nat) : Int) / (n * n) ∧ ((L a : Nat) : Int) / (n * n) < 12) (ht : ((L a : Nat) : Int) / (n * n) < mt_rd s) : ri_Va L s n i (a + 1) (x4 + 1) x5 (pg_or x6 (pg_shl 1 (((L a : Nat) : Int) / (n * n)))) := by
  refine ⟨?_, ?_, ri_Va_k hv.2.2 hf hk⟩
  · simp only [pg_cn]; rw [pg_b_t ⟨hf, ht⟩, hv.1]
  · simp only [pg_cn]; rw [pg_b_f (fun h => h.2 ht), Int.add_zero]; exact hv.2.1
theorem ri_Va_m {L : Nat → Nat} {s n : Int} {i a : Nat} {x4 x5 x6 : Int} (hv : ri_Va L s n i a x4 x5 x6) (hf : mt_pm s n (L a) i = i) (hk : 0 ≤ ((L a : Nat) : Int) / (n * n) ∧ ((L a : Nat) : Int) / (n * n) < 12) (ht : ¬ ((L a : Nat) : Int) / (n * n) < mt_rd s) : ri_Va L s n i (a + 1) x4 (x5 + 1) (pg_or x6 (pg_shl 1 (((L a : Nat) : Int) / (n * n)))) := by
  refine ⟨?_, ?_, ri_Va_k hv.2.2 hf hk⟩
  · simp only [pg_cn]; rw [pg_b_f (fun h => ht h.2), Int.add_zero]; exact hv.1
  · simp only [pg_cn]; rw [pg_b_t ⟨hf, ht⟩, hv.2.1]
theorem ri_Va_s {L : Nat → Nat} {g : pg_H} {s n A i : Int} {a : Nat} (hi : 0 ≤ i) (hv : ∀ j : Nat, (j : Int) < A → ri_Va L s n j (if (j : Int) < i then a + 1 else a) (g 4 j) (g 5 j) (g 6 j)) {x4 x5 x6 X Y : Int} (hx : ri_Va L s n i.toNat (a + 1) x4 x5 x6) : ∀ j : Nat, (j : Int) < A → ri_Va L s n j (if (j : Int) < i + 1 then a + 1 else a) (pg_up (pg_up (pg_up (pg_up (pg_up g 0 15 X) 0 16 Y) 6 i.toNat x6) 4 i.toNat x4) 5 i.toNat x5 4 j) (pg_up (pg_up (pg_up (pg_up (pg_up g 0 15 X) 0 16 Y) 6 i.toNat x6) 4 i.toNat x4) 5 i.toNat x5 5 j) (pg_up (pg_up (pg_up (pg_up (pg_up g 0 15 X) 0 16 Y) 6 i.toNat x6) 4 i.toNat x4) 5 i.toNat x5 6 j) := by
  intro j hj
  have e9 : ∀ (G : pg_H) (q q' i : Nat) (z : Int), q' ≠ q → pg_up G q i z q' j = G q' j := fun G q q' i z h => by rw [pg_up_ne _ _ _ h]
  rw [e9 _ 5 4 _ _ (by decide), pg_up_at, e9 _ 6 4 _ _ (by decide), e9 _ 0 4 _ _ (by decide), e9 _ 0 4 _ _ (by decide)]
  rw [pg_up_at, e9 _ 4 5 _ _ (by decide), e9 _ 6 5 _ _ (by decide), e9 _ 0 5 _ _ (by decide), e9 _ 0 5 _ _ (by decide)]
  rw [e9 _ 5 6 _ _ (by decide), e9 _ 4 6 _ _ (by decide), pg_up_at, e9 _ 0 6 _ _ (by decide), e9 _ 0 6 _ _ (by decide)]
  by_cases hc : j = i.toNat
  · rw [if_pos hc, if_pos hc, if_pos hc, if_pos (by omega), hc]
    exact hx
  · rw [if_neg hc, if_neg hc, if_neg hc]
    have h1 := hv j hj
    by_cases hl : (j : Int) < i
    · rw [if_pos hl] at h1
      rw [if_pos (by omega)]; exact h1
    · rw [if_neg hl] at h1
      rw [if_neg (by omega)]; exact h1
theorem ri_Va_e {L : Nat → Nat} {g : pg_H} {s n A i : Int} {a : Nat} (hi : 0 ≤ i) (hv : ∀ j : Nat, (j : Int) < A → ri_Va L s n j (if (j : Int) < i then a + 1 else a) (g 4 j) (g 5 j) (g 6 j)) (hx : ri_Va L s n i.toNat (a + 1) (g 4 i.toNat) (g 5 i.toNat) (g 6 i.toNat)) : ∀ j : Nat, (j : Int) < A → ri_Va L s n j (if (j : Int) < i + 1 then a + 1 else a) (g 4 j) (g 5 j) (g 6 j) := by
  intro j hj
  by_cases hc : j = i.toNat
  · rw [if_pos (by omega), hc]
    exact hx
  · have h1 := hv j hj
    by_cases hl : (j : Int) < i
    · rw [if_pos hl] at h1
      rw [if_pos (by omega)]; exact h1
    · rw [if_neg hl] at h1
      rw [if_neg (by omega)]; exact h1
theorem ri_Va_end {col L0 : Nat → Int} {s n : Int} (hL : ∀ m, m < (2 * mt_rd s * (n * n)).toNat → mt_sm col s n m → L0 (pg_cn (mt_sm col s n) m).toNat = m) {i : Nat} {x4 x5 x6 : Int} (hv : ri_Va (fun b => (L0 b).toNat) s n i (pg_cn (mt_sm col s n) (2 * mt_rd s * (n * n)).toNat).toNat x4 x5 x6) : x4 = pg_cn (mt_ft col s n i) (2 * mt_rd s * (n * n)).toNat ∧ x5 = pg_cn (mt_fm col s n i) (2 * mt_rd s * (n * n)).toNat ∧ ri_mk x6 (mt_fk col s n i) := by
  obtain ⟨h1, h2, h3⟩ := hv
  refine ⟨?_, ?_, ri_mk_iff h3 (fun k _ => ?_)⟩
  · rw [h1]; exact pg_cn_li (Q := fun m => mt_pm s n m i = i ∧ (m : Int) / (n * n) < mt_rd s) hL
  · rw [h2]; exact pg_cn_li (Q := fun m => mt_pm s n m i = i ∧ ¬ (m : Int) / (n * n) < mt_rd s) hL
  · have h4 := pg_ex_li (Q := fun m => mt_pm s n m i = i ∧ (m : Int) / (n * n) = k) hL
    have h5 := pg_cn_bd (mt_sm col s n) (2 * mt_rd s * (n * n)).toNat
    constructor
    · rintro ⟨b, a1, a2⟩
      exact h4.mp ⟨b, by omega, a2⟩
    · intro h
      obtain ⟨b, a1, a2⟩ := h4.mpr h
      exact ⟨b, by omega, a2⟩
theorem ri_cl_mono {R : Nat → Nat → Prop} {i j : Nat} (h : i ≤ j) : (ri_cl R i).2 ≤ (ri_cl R j).2 := by
  induction j with
  | zero => rw [show i = 0 by omega]; exact Int.le_refl _
  | succ j ih =>
    rcases (show i ≤ j ∨ i = j + 1 by omega) with h1 | rfl
    · have := ih h1
      rcases Classical.em ((ri_cl R j).1 j < 0) with h2 | h2
      · rw [ri_cl_t h2]; show _ ≤ (ri_cl R j).2 + 1; omega
      · rw [ri_cl_f h2]; exact this
    · exact Int.le_refl _
theorem ri_cl_lt {R : Nat → Nat → Prop} {j i : Nat} (h : j < i) (hr : (ri_cl R j).1 j < 0) : (ri_cl R j).2 < (ri_cl R i).2 := by
  have h1 := ri_cl_mono (R := R) (show j + 1 ≤ i by omega)
  rw [ri_cl_t hr] at h1
  have h2 : (ri_cl R j).2 + 1 ≤ (ri_cl R i).2 := h1
  omega
set_option maxRecDepth 20000 in
set_option maxHeartbeats 4000000 in
theorem re_fp_e {g0 : pg_H} {s n : Int} (hB0 : rm_B g0 s n) (hS0 : ri_S g0 s n) {A : Int} (hA : A = 6 * n * (6 * n)) {g1 gz : pg_H} {i : Int} (hi : 0 ≤ i ∧ i < A) (hcl : 0 ≤ gz 0 13 ∧ gz 0 13 < 5184) (hK : ∀ (g2 : pg_H), rf [4, 5, 6, 7, 8] [13, 15, 16] g0 g2 → rf [7, 8] [13, 15, 16] g1 g2 → g2 0 13 = gz 0 13 → g2 8 = gz 8 → (∀ x : Nat, (x : Int) < A → g2 7 x = pg_if (mt_pR (g0 1) s n i.toNat x) (gz 0 13) (gz 7 x)) → pg_Good false pm_T_findPlaces (fun r h' => r = none ∧ ∃ g', h' = rm g' s n ∧ rf [4, 5, 6, 7, 8] [13, 15, 16] g0 g' ∧ ri_P g' s n) (304, [(0, .inr (.inr 0)), (1, .inl A), (2, .inl i), (3, .inl (pg_cn (mt_sm (g0 1) s n) (2 * mt_rd s * (n * n)).toNat))], [], rm g2 s n)) : ∀ (d : Nat) (g : pg_H) (c : Int) (hd : c + (d : Int) = pg_cn (mt_sm (g0 1) s n) (2 * mt_rd s * (n * n)).toNat) (hc : 0 ≤ c) (hf : rf [4, 5, 6, 7, 8] [13, 15, 16] g0 g) (hf1 : rf [7, 8] [13, 15, 16] g1 g) (h13 : g 0 13 = gz 0 13) (h8 : g 8 = gz 8) (hI : ∀ x : Nat, (x : Int) < A → g 7 x = pg_if (∃ b : Nat, (b : Int) < c ∧ mt_pm s n ((fun b => (g0 3 b).toNat) b) i.toNat = x) (gz 0 13) (gz 7 x)), pg_Good false pm_T_findPlaces (fun r h' => r = none ∧ ∃ g', h' = rm g' s n ∧ rf [4, 5, 6, 7, 8] [13, 15, 16] g0 g' ∧ ri_P g' s n) (259, [(0, .inr (.inr 0)), (1, .inl A), (2, .inl i), (3, .inl c)], [], rm g s n) := by
  intro d
  induction d with
  | zero =>
    intro g c hd hc hf hf1 h13 h8 hI
    have hB := rm_B_fr hB0 hf (by decide)
    obtain ⟨hs, hn, -⟩ := id hB
    obtain ⟨hn1, hn2⟩ := id hn
    have hr := mt_rd_or hs
    have h66 := mt_66 hn1 hn2
    have hN := mt_2rn hs hn
    have e3 : g 3 = g0 3 := hf.1 3 (by decide) (by decide)
    have e6 : g 0 6 = g0 0 6 := hf.2 6 (by decide)
    have hcb := pg_cn_bd (mt_sm (g0 1) s n) (2 * mt_rd s * (n * n)).toNat
    have h6 : g0 0 6 = pg_cn (mt_sm (g0 1) s n) (2 * mt_rd s * (n * n)).toNat := hS0.1
    refine pg_br 3 (L := []) (P := pg_inR c ∧ pg_inR (g 0 6)) (c := (g 0 6) ≤ c) (st1 := (304, [(0, .inr (.inr 0)), (1, .inl A), (2, .inl i), (3, .inl c)], [], rm g s n)) (st2 := (267, [(0, .inr (.inr 0)), (1, .inl A), (2, .inl i), (3, .inl c)], [], rm g s n)) rfl trivial ⟨⟨by omega, by omega⟩, ⟨by omega, by omega⟩⟩ (fun c_264_1 => ?_) (fun c_264_1 => ?_)
    · have ec : c = pg_cn (mt_sm (g0 1) s n) (2 * mt_rd s * (n * n)).toNat := by omega
      rw [ec]
      refine hK _ hf hf1 h13 h8 (fun x hx => ?_)
      rw [hI x hx, ec]
      rcases Classical.em (mt_pR (g0 1) s n i.toNat x) with h1 | h1
      · rw [pg_if_t h1, pg_if_t ((pg_ex_li (Q := fun m => mt_pm s n m i.toNat = x) (fun m h2 => hS0.2 m (by omega))).mpr h1)]
      · rw [pg_if_f h1, pg_if_f (fun h2 => h1 ((pg_ex_li (Q := fun m => mt_pm s n m i.toNat = x) (fun m h2 => hS0.2 m (by omega))).mp h2))]
    · exact (by exfalso; omega)
  | succ d ih =>
    intro g c hd hc hf hf1 h13 h8 hI
    have hB := rm_B_fr hB0 hf (by decide)
    obtain ⟨hs, hn, -⟩ := id hB
    obtain ⟨hn1, hn2⟩ := id hn
    have hr := mt_rd_or hs
    have h66 := mt_66 hn1 hn2
    have hN := mt_2rn hs hn
    have e3 : g 3 = g0 3 := hf.1 3 (by decide) (by decide)
    have e6 : g 0 6 = g0 0 6 := hf.2 6 (by decide)
    have hcb := pg_cn_bd (mt_sm (g0 1) s n) (2 * mt_rd s * (n * n)).toNat
    have h6 : g0 0 6 = pg_cn (mt_sm (g0 1) s n) (2 * mt_rd s * (n * n)).toNat := hS0.1
    obtain ⟨m, hm1, hm2, hm3⟩ := pg_cn_ex (show 0 ≤ c by omega) (show c < pg_cn (mt_sm (g0 1) s n) (2 * mt_rd s * (n * n)).toNat by omega)
    have hma : g 3 c.toNat = (m : Int) := by
      have h1 := hS0.2 m (by omega) hm2
      rw [hm3] at h1
      rw [e3]; exact h1
    have hka := mt_kof hn1 (show 0 ≤ g 3 c.toNat ∧ g 3 c.toNat < 2 * mt_rd s * (n * n) by omega)
    have eL : (((fun b => (g0 3 b).toNat) c.toNat : Nat) : Int) = g 3 c.toNat := by show (((g0 3 c.toNat).toNat : Nat) : Int) = _; rw [← e3]; omega
    have et := pg_tmod_nn (x := i) (y := 6 * n) (by omega)
    have ed := pg_tdiv_nn (x := i) (y := 6 * n) (by omega)
    have h6s := mt_6s hn1 (show 0 ≤ i ∧ i < 6 * n * (6 * n) by omega)
    have ei : ((i.toNat : Nat) : Int) = i := by omega
    have e66 : 6 * n * Int.tdiv i (6 * n) + Int.tmod i (6 * n) = i := by rw [ed, et]; exact h6s.2.2
    have hpb := mt_pl_bd (s := s) (M := g 3 c.toNat) (P := Int.tmod i (6 * n)) (Q := Int.tdiv i (6 * n)) hn1 hn2
    have epm : mt_pl s n (g 3 c.toNat) (Int.tmod i (6 * n)) (Int.tdiv i (6 * n)) = mt_pm s n ((fun b => (g0 3 b).toNat) c.toNat) i.toNat := by
      unfold mt_pm
      rw [eL, et, ed, ei]
    refine pg_br 3 (L := []) (P := pg_inR c ∧ pg_inR (g 0 6)) (c := (g 0 6) ≤ c) (st1 := (304, [(0, .inr (.inr 0)), (1, .inl A), (2, .inl i), (3, .inl c)], [], rm g s n)) (st2 := (267, [(0, .inr (.inr 0)), (1, .inl A), (2, .inl i), (3, .inl c)], [], rm g s n)) rfl trivial ⟨⟨by omega, by omega⟩, ⟨by omega, by omega⟩⟩ (fun c_264_2 => ?_) (fun c_264_2 => ?_)
    · exact (by exfalso; omega)
    · refine pg_ca 9 (L := [0 ≤ c ∧ c < (1728 : Int)]) (Mc := pm_T_side) (as := [.inr (.inr 0)]) (h0 := rm g s n) (pc := 283) (lv := [(0, .inr (.inr 0)), (1, .inl A), (2, .inl i), (3, .inl c)]) (rest := [.inl i, .inl (g 3 c.toNat), .inr (.inr 0), .inr (.inr 7)]) rfl ⟨by omega, by omega⟩ (re_side (g := g) (s := s) hn) ?_
      intro r_1 h_1 e_1; rw [e_1.1, e_1.2]
      refine pg_ca 3 (L := [(6 * n) ≠ 0 ∧ pg_inR i ∧ pg_inR (6 * n)]) (Mc := pm_T_side) (as := [.inr (.inr 0)]) (h0 := rm g s n) (pc := 289) (lv := [(0, .inr (.inr 0)), (1, .inl A), (2, .inl i), (3, .inl c)]) (rest := [.inl i, .inl (Int.tmod i (6 * n)), .inl (g 3 c.toNat), .inr (.inr 0), .inr (.inr 7)]) rfl ⟨by omega, ⟨by omega, by omega⟩, ⟨by omega, by omega⟩⟩ (re_side (g := g) (s := s) hn) ?_
      intro r_1 h_1 e_1; rw [e_1.1, e_1.2]
      refine pg_ca 1 (L := [(6 * n) ≠ 0 ∧ pg_inR i ∧ pg_inR (6 * n)]) (Mc := pm_T_placeBy) (as := [.inr (.inr 0), .inl (g 3 c.toNat), .inl (Int.tmod i (6 * n)), .inl (Int.tdiv i (6 * n))]) (h0 := rm g s n) (pc := 293) (lv := [(0, .inr (.inr 0)), (1, .inl A), (2, .inl i), (3, .inl c)]) (rest := [.inr (.inr 7)]) rfl ⟨by omega, ⟨by omega, by omega⟩, ⟨by omega, by omega⟩⟩ (re_placeBy (g := g) hB (g 3 c.toNat) (Int.tmod i (6 * n)) (Int.tdiv i (6 * n)) ⟨by omega, by omega⟩ ⟨by omega, by omega⟩ ⟨by omega, by omega⟩) ?_
      intro r_1 h_1 e_1; rw [e_1.1, e_1.2]
      refine pg_go 5 (L := [0 ≤ (mt_pl s n (g 3 c.toNat) (Int.tmod i (6 * n)) (Int.tdiv i (6 * n))) ∧ (mt_pl s n (g 3 c.toNat) (Int.tmod i (6 * n)) (Int.tdiv i (6 * n))) < (5184 : Int)]) (st' := (259, [(0, .inr (.inr 0)), (1, .inl A), (2, .inl i), (3, .inl (c + 1))], [], pg_up (rm (pg_up (pg_up g 0 15 (mt_x s ((g 3 c.toNat) / (n * n)) (Int.tmod i (6 * n)) (Int.tdiv i (6 * n)))) 0 16 (mt_y s ((g 3 c.toNat) / (n * n)) (Int.tmod i (6 * n)) (Int.tdiv i (6 * n)))) s n) 7 ((mt_pl s n (g 3 c.toNat) (Int.tmod i (6 * n)) (Int.tdiv i (6 * n))).toNat) (g 0 13))) rfl ⟨by omega, by omega⟩ ?_
      rw [rm_upq (q := 7) (by decide)]
      refine ih _ _ (by omega) (by omega) (rf_q (rf_0 (rf_0 hf (by decide) _) (by decide) _) (by decide) (by decide) _ _) (rf_q (rf_0 (rf_0 hf1 (by decide) _) (by decide) _) (by decide) (by decide) _ _) h13 h8 (fun x hx => ?_)
      show pg_up _ 7 _ _ 7 x = _
      rw [pg_up_at]
      have hx1 := hI x hx
      by_cases hxc : x = (mt_pl s n (g 3 c.toNat) (Int.tmod i (6 * n)) (Int.tdiv i (6 * n))).toNat
      · rw [if_pos hxc]
        rw [pg_if_t ⟨c.toNat, by omega, by rw [← epm]; omega⟩]
        exact h13
      · rw [if_neg hxc]
        refine hx1.trans ?_
        rcases Classical.em (∃ b : Nat, (b : Int) < c ∧ mt_pm s n ((fun b => (g0 3 b).toNat) b) i.toNat = x) with h1 | h1
        · rw [pg_if_t h1]
          obtain ⟨b, b1, b2⟩ := h1
          rw [pg_if_t ⟨b, by omega, b2⟩]
        · rw [pg_if_f h1, pg_if_f]
          rintro ⟨b, b1, b2⟩
          rcases (show (b : Int) < c ∨ b = c.toNat by omega) with h2 | rfl
          · exact h1 ⟨b, h2, b2⟩
          · exact hxc (by rw [epm, b2, Int.toNat_natCast])
set_option maxRecDepth 20000 in
set_option maxHeartbeats 4000000 in
theorem re_fp_4 {g0 g : pg_H} {s n A i c : Int} (hi : 0 ≤ i ∧ i < 5184) (hcl : 0 ≤ g 0 13 ∧ g 0 13 < 5184) (hK : pg_Good false pm_T_findPlaces (fun r h' => r = none ∧ ∃ g', h' = rm g' s n ∧ rf [4, 5, 6, 7, 8] [13, 15, 16] g0 g' ∧ ri_P g' s n) (243, [(0, .inr (.inr 0)), (1, .inl A), (2, .inl (i + 1))], [], rm (pg_up (pg_up g 8 (g 0 13).toNat i) 0 13 (g 0 13 + 1)) s n)) : pg_Good false pm_T_findPlaces (fun r h' => r = none ∧ ∃ g', h' = rm g' s n ∧ rf [4, 5, 6, 7, 8] [13, 15, 16] g0 g' ∧ ri_P g' s n) (304, [(0, .inr (.inr 0)), (1, .inl A), (2, .inl i), (3, .inl c)], [], rm g s n) := by
  refine pg_go 14 (L := [0 ≤ (g 0 13) ∧ (g 0 13) < (5184 : Int)]) (st' := (243, [(0, .inr (.inr 0)), (1, .inl A), (2, .inl (i + 1)), (3, .inl c)], [], pg_up (pg_up (rm g s n) 8 ((g 0 13).toNat) i) 0 13 ((g 0 13) + 1))) rfl ⟨by omega, by omega⟩ ?_
  rw [rm_upq (q := 8) (by decide), rm_up0 (i := 13) (by decide) (by decide)]
  refine pg_pick [0, 1, 2] rfl ?_
  exact hK
set_option maxRecDepth 20000 in
set_option maxHeartbeats 4000000 in
theorem re_fp_d {g0 : pg_H} {s n : Int} (hB0 : rm_B g0 s n) (hS0 : ri_S g0 s n) {A : Int} (hA : A = 6 * n * (6 * n)) {g1 : pg_H} (hf01 : rf [4, 5, 6, 7, 8] [13, 15, 16] g0 g1) (hv1 : ∀ j : Nat, (j : Int) < A → g1 4 j = pg_cn (mt_ft (g0 1) s n j) (2 * mt_rd s * (n * n)).toNat ∧ g1 5 j = pg_cn (mt_fm (g0 1) s n j) (2 * mt_rd s * (n * n)).toNat ∧ ri_mk (g1 6 j) (mt_fk (g0 1) s n j)) : ∀ (d : Nat) (g : pg_H) (i : Int) (hd : i + (d : Int) = A) (hi : 0 ≤ i) (hf1 : rf [7, 8] [13, 15, 16] g1 g) (hI : ∀ x : Nat, (x : Int) < A → g 7 x = (ri_cl (mt_pR (g0 1) s n) i.toNat).1 x) (h13 : g 0 13 = (ri_cl (mt_pR (g0 1) s n) i.toNat).2) (h8 : ∀ j : Nat, (j : Int) < i → (ri_cl (mt_pR (g0 1) s n) j).1 j < 0 → g 8 (ri_cl (mt_pR (g0 1) s n) j).2.toNat = j), pg_Good false pm_T_findPlaces (fun r h' => r = none ∧ ∃ g', h' = rm g' s n ∧ rf [4, 5, 6, 7, 8] [13, 15, 16] g0 g' ∧ ri_P g' s n) (243, [(0, .inr (.inr 0)), (1, .inl A), (2, .inl i)], [], rm g s n) := by
  intro d
  induction d with
  | zero =>
    intro g i hd hi hf1 hI h13 h8
    have hf := rf_tr hf01 (rf_w hf1 (cs := [4, 5, 6, 7, 8]) (fs := [13, 15, 16]) (by decide) (by decide)) (by decide) (by decide)
    have hB := rm_B_fr hB0 hf (by decide)
    obtain ⟨hs, hn, -⟩ := id hB
    obtain ⟨hn1, hn2⟩ := id hn
    have hr := mt_rd_or hs
    have h66 := mt_66 hn1 hn2
    have hN := mt_2rn hs hn
    have e3 : g 3 = g0 3 := hf.1 3 (by decide) (by decide)
    have e6 : g 0 6 = g0 0 6 := hf.2 6 (by decide)
    have hcb := pg_cn_bd (mt_sm (g0 1) s n) (2 * mt_rd s * (n * n)).toNat
    have h6 : g0 0 6 = pg_cn (mt_sm (g0 1) s n) (2 * mt_rd s * (n * n)).toNat := hS0.1
    have hcd := ri_cl_bd (mt_pR (g0 1) s n) i.toNat
    have e1 : g 1 = g0 1 := hf.1 1 (by decide) (by decide)
    refine pg_br 2 (L := []) (P := pg_inR i ∧ pg_inR A) (c := A ≤ i) (st1 := (330, [(0, .inr (.inr 0)), (1, .inl A), (2, .inl i)], [], rm g s n)) (st2 := (248, [(0, .inr (.inr 0)), (1, .inl A), (2, .inl i)], [], rm g s n)) rfl trivial ⟨⟨by omega, by omega⟩, ⟨by omega, by omega⟩⟩ (fun c_245_1 => ?_) (fun c_245_1 => ?_)
    · refine pg_re 0 (L := []) (r := none) (h0 := rm g s n) rfl trivial ?_
      refine ⟨rfl, g, rfl, hf, ?_⟩
      have eA : 6 * n * (6 * n) = i := by omega
      unfold ri_P
      rw [e1, eA]
      refine ⟨fun j hj => ?_, h13, h8⟩
      rw [hf1.1 4 (by decide) (by decide), hf1.1 5 (by decide) (by decide), hf1.1 6 (by decide) (by decide)]
      have h1 := hv1 j (by omega)
      exact ⟨h1.1, h1.2.1, h1.2.2, hI j (by omega)⟩
    · exact (by exfalso; omega)
  | succ d ih =>
    intro g i hd hi hf1 hI h13 h8
    have hf := rf_tr hf01 (rf_w hf1 (cs := [4, 5, 6, 7, 8]) (fs := [13, 15, 16]) (by decide) (by decide)) (by decide) (by decide)
    have hB := rm_B_fr hB0 hf (by decide)
    obtain ⟨hs, hn, -⟩ := id hB
    obtain ⟨hn1, hn2⟩ := id hn
    have hr := mt_rd_or hs
    have h66 := mt_66 hn1 hn2
    have hN := mt_2rn hs hn
    have e3 : g 3 = g0 3 := hf.1 3 (by decide) (by decide)
    have e6 : g 0 6 = g0 0 6 := hf.2 6 (by decide)
    have hcb := pg_cn_bd (mt_sm (g0 1) s n) (2 * mt_rd s * (n * n)).toNat
    have h6 : g0 0 6 = pg_cn (mt_sm (g0 1) s n) (2 * mt_rd s * (n * n)).toNat := hS0.1
    have hcd := ri_cl_bd (mt_pR (g0 1) s n) i.toNat
    have e1 : g 1 = g0 1 := hf.1 1 (by decide) (by decide)
    have ek : (i + 1).toNat = i.toNat + 1 := by omega
    have ei : ((i.toNat : Nat) : Int) = i := by omega
    have hIi := hI i.toNat (by omega)
    have hci := hcd.2 i.toNat
    refine pg_br 2 (L := []) (P := pg_inR i ∧ pg_inR A) (c := A ≤ i) (st1 := (330, [(0, .inr (.inr 0)), (1, .inl A), (2, .inl i)], [], rm g s n)) (st2 := (248, [(0, .inr (.inr 0)), (1, .inl A), (2, .inl i)], [], rm g s n)) rfl trivial ⟨⟨by omega, by omega⟩, ⟨by omega, by omega⟩⟩ (fun c_245_2 => ?_) (fun c_245_2 => ?_)
    · exact (by exfalso; omega)
    · refine pg_br 4 (L := [0 ≤ i ∧ i < (5184 : Int)]) (P := pg_inR (g 7 i.toNat)) (c := 0 ≤ (g 7 i.toNat)) (st1 := (324, [(0, .inr (.inr 0)), (1, .inl A), (2, .inl i)], [], rm g s n)) (st2 := (257, [(0, .inr (.inr 0)), (1, .inl A), (2, .inl i)], [], rm g s n)) rfl ⟨by omega, by omega⟩ ⟨by omega, by omega⟩ (fun c_254_3 => ?_) (fun c_254_3 => ?_)
      · refine pg_go 2 (L := []) (st' := (243, [(0, .inr (.inr 0)), (1, .inl A), (2, .inl (i + 1))], [], rm g s n)) rfl trivial ?_
        refine ih _ _ (by omega) (by omega) hf1 (fun x hx => ?_) ?_ (fun j hj hr => ?_)
        · rw [ek, ri_cl_f (by omega)]; exact hI x hx
        · rw [ek, ri_cl_f (by omega)]; exact h13
        · rcases (show (j : Int) < i ∨ j = i.toNat by omega) with h1 | rfl
          · exact h8 j h1 hr
          · exfalso; omega
      · refine pg_go 2 (L := []) (st' := (259, [(0, .inr (.inr 0)), (1, .inl A), (2, .inl i), (3, .inl 0)], [], rm g s n)) rfl trivial ?_
        have hlt : (ri_cl (mt_pR (g0 1) s n) i.toNat).1 i.toNat < 0 := by omega
        refine re_fp_e hB0 hS0 hA (i := i) (by omega) (by omega) ?_ (pg_cn (mt_sm (g0 1) s n) (2 * mt_rd s * (n * n)).toNat).toNat g 0 (by omega) (by omega) hf hf1 rfl rfl (fun x hx => ?_)
        · intro g2 k0 k2 k3 k4 k5
          refine re_fp_4 (g0 := g0) (by omega) (by omega) ?_
          refine ih _ _ (by omega) (by omega) (rf_0 (rf_q k2 (by decide) (by decide) _ _) (by decide) _) (fun x hx => ?_) ?_ (fun j hj hr => ?_)
          · show g2 7 x = _
            rw [ek, ri_cl_t hlt, k5 x hx, h13, hI x hx, ]
          · show g2 0 13 + 1 = _
            rw [ek, ri_cl_t hlt, k3, h13]
          · show pg_up g2 8 (g2 0 13).toNat i 8 _ = _
            rw [pg_up_at, k3, h13]
            rcases (show (j : Int) < i ∨ j = i.toNat by omega) with h1 | rfl
            · have h2 := ri_cl_lt (R := (mt_pR (g0 1) s n)) (show j < i.toNat by omega) hr
              have h3 := ri_cl_bd (mt_pR (g0 1) s n) j
              rw [if_neg (by omega), k4]
              exact h8 j h1 hr
            · rw [if_pos rfl, ei]
        · rw [pg_if_f]
          rintro ⟨b, b1, -⟩; omega
set_option maxRecDepth 20000 in
set_option maxHeartbeats 4000000 in
theorem re_fp_c {g0 : pg_H} {s n : Int} (hB0 : rm_B g0 s n) (hS0 : ri_S g0 s n) {A : Int} (hA : A = 6 * n * (6 * n)) {a t : Int} (ha : 0 ≤ a ∧ a < pg_cn (mt_sm (g0 1) s n) (2 * mt_rd s * (n * n)).toNat) (ht : (t = 1 ∧ g0 3 a.toNat / (n * n) < mt_rd s) ∨ (t = 0 ∧ ¬ g0 3 a.toNat / (n * n) < mt_rd s)) (hK : ∀ (g2 : pg_H), rf [4, 5, 6, 7, 8] [13, 15, 16] g0 g2 → (∀ j : Nat, (j : Int) < A → ri_Va (fun b => (g0 3 b).toNat) s n j (a + 1).toNat (g2 4 j) (g2 5 j) (g2 6 j)) → (∀ j : Nat, (j : Int) < A → g2 7 j = -1) → pg_Good false pm_T_findPlaces (fun r h' => r = none ∧ ∃ g', h' = rm g' s n ∧ rf [4, 5, 6, 7, 8] [13, 15, 16] g0 g' ∧ ri_P g' s n) (70, [(0, .inr (.inr 0)), (1, .inl A), (2, .inl (a + 1))], [], rm g2 s n)) : ∀ (d : Nat) (g : pg_H) (i : Int) (hd : i + (d : Int) = A) (hi : 0 ≤ i) (hf : rf [4, 5, 6, 7, 8] [13, 15, 16] g0 g) (hv : ∀ j : Nat, (j : Int) < A → ri_Va (fun b => (g0 3 b).toNat) s n j (if (j : Int) < i then a.toNat + 1 else a.toNat) (g 4 j) (g 5 j) (g 6 j)) (h7 : ∀ j : Nat, (j : Int) < A → g 7 j = -1), pg_Good false pm_T_findPlaces (fun r h' => r = none ∧ ∃ g', h' = rm g' s n ∧ rf [4, 5, 6, 7, 8] [13, 15, 16] g0 g' ∧ ri_P g' s n) (104, [(0, .inr (.inr 0)), (1, .inl A), (2, .inl a), (3, .inl t), (4, .inl i)], [], rm g s n) := by
  intro d
  induction d with
  | zero =>
    intro g i hd hi hf hv h7
    have hB := rm_B_fr hB0 hf (by decide)
    obtain ⟨hs, hn, -⟩ := id hB
    obtain ⟨hn1, hn2⟩ := id hn
    have hr := mt_rd_or hs
    have h66 := mt_66 hn1 hn2
    have hN := mt_2rn hs hn
    have e3 : g 3 = g0 3 := hf.1 3 (by decide) (by decide)
    have e6 : g 0 6 = g0 0 6 := hf.2 6 (by decide)
    have hcb := pg_cn_bd (mt_sm (g0 1) s n) (2 * mt_rd s * (n * n)).toNat
    have h6 : g0 0 6 = pg_cn (mt_sm (g0 1) s n) (2 * mt_rd s * (n * n)).toNat := hS0.1
    have ek : (a + 1).toNat = a.toNat + 1 := by omega
    refine pg_br 2 (L := []) (P := pg_inR i ∧ pg_inR A) (c := A ≤ i) (st1 := (230, [(0, .inr (.inr 0)), (1, .inl A), (2, .inl a), (3, .inl t), (4, .inl i)], [], rm g s n)) (st2 := (110, [(0, .inr (.inr 0)), (1, .inl A), (2, .inl a), (3, .inl t), (4, .inl i)], [], rm g s n)) rfl trivial ⟨⟨by omega, by omega⟩, ⟨by omega, by omega⟩⟩ (fun c_107_1 => ?_) (fun c_107_1 => ?_)
    · refine pg_go 2 (L := []) (st' := (70, [(0, .inr (.inr 0)), (1, .inl A), (2, .inl (a + 1)), (3, .inl t), (4, .inl i)], [], rm g s n)) rfl trivial ?_
      refine pg_pick [0, 1, 2] rfl ?_
      refine hK _ hf (fun j hj => ?_) h7
      have h1 := hv j hj
      rw [if_pos (by omega)] at h1
      rw [ek]
      exact h1
    · exact (by exfalso; omega)
  | succ d ih =>
    intro g i hd hi hf hv h7
    have hB := rm_B_fr hB0 hf (by decide)
    obtain ⟨hs, hn, -⟩ := id hB
    obtain ⟨hn1, hn2⟩ := id hn
    have hr := mt_rd_or hs
    have h66 := mt_66 hn1 hn2
    have hN := mt_2rn hs hn
    have e3 : g 3 = g0 3 := hf.1 3 (by decide) (by decide)
    have e6 : g 0 6 = g0 0 6 := hf.2 6 (by decide)
    have hcb := pg_cn_bd (mt_sm (g0 1) s n) (2 * mt_rd s * (n * n)).toNat
    have h6 : g0 0 6 = pg_cn (mt_sm (g0 1) s n) (2 * mt_rd s * (n * n)).toNat := hS0.1
    have ek : (a + 1).toNat = a.toNat + 1 := by omega
    obtain ⟨m, hm1, hm2, hm3⟩ := pg_cn_ex (show 0 ≤ a by omega) (show a < pg_cn (mt_sm (g0 1) s n) (2 * mt_rd s * (n * n)).toNat by omega)
    have hma : g 3 a.toNat = (m : Int) := by
      have h1 := hS0.2 m (by omega) hm2
      rw [hm3] at h1
      rw [e3]; exact h1
    have hka := mt_kof hn1 (show 0 ≤ g 3 a.toNat ∧ g 3 a.toNat < 2 * mt_rd s * (n * n) by omega)
    have eL : (((fun b => (g0 3 b).toNat) a.toNat : Nat) : Int) = g 3 a.toNat := by show (((g0 3 a.toNat).toNat : Nat) : Int) = _; rw [← e3]; omega
    have et := pg_tmod_nn (x := i) (y := 6 * n) (by omega)
    have ed := pg_tdiv_nn (x := i) (y := 6 * n) (by omega)
    have h6s := mt_6s hn1 (show 0 ≤ i ∧ i < 6 * n * (6 * n) by omega)
    have ei : ((i.toNat : Nat) : Int) = i := by omega
    have e66 : 6 * n * Int.tdiv i (6 * n) + Int.tmod i (6 * n) = i := by rw [ed, et]; exact h6s.2.2
    have epm : mt_pl s n (g 3 a.toNat) (Int.tmod i (6 * n)) (Int.tdiv i (6 * n)) = mt_pm s n ((fun b => (g0 3 b).toNat) a.toNat) i.toNat := by
      unfold mt_pm
      rw [eL, et, ed, ei]
    have hvi := hv i.toNat (by omega)
    rw [if_neg (by omega)] at hvi
    have h4b := hvi.1
    have h5b := hvi.2.1
    have h4c := pg_cn_bd (fun b => mt_pm s n ((fun b => (g0 3 b).toNat) b) i.toNat = i.toNat ∧ (((fun b => (g0 3 b).toNat) b : Nat) : Int) / (n * n) < mt_rd s) a.toNat
    have h5c := pg_cn_bd (fun b => mt_pm s n ((fun b => (g0 3 b).toNat) b) i.toNat = i.toNat ∧ ¬ (((fun b => (g0 3 b).toNat) b : Nat) : Int) / (n * n) < mt_rd s) a.toNat
    refine pg_br 2 (L := []) (P := pg_inR i ∧ pg_inR A) (c := A ≤ i) (st1 := (230, [(0, .inr (.inr 0)), (1, .inl A), (2, .inl a), (3, .inl t), (4, .inl i)], [], rm g s n)) (st2 := (110, [(0, .inr (.inr 0)), (1, .inl A), (2, .inl a), (3, .inl t), (4, .inl i)], [], rm g s n)) rfl trivial ⟨⟨by omega, by omega⟩, ⟨by omega, by omega⟩⟩ (fun c_107_2 => ?_) (fun c_107_2 => ?_)
    · exact (by exfalso; omega)
    · refine pg_ca 7 (L := [0 ≤ a ∧ a < (1728 : Int)]) (Mc := pm_T_side) (as := [.inr (.inr 0)]) (h0 := rm g s n) (pc := 123) (lv := [(0, .inr (.inr 0)), (1, .inl A), (2, .inl a), (3, .inl t), (4, .inl i)]) (rest := [.inl i, .inl (g 3 a.toNat), .inr (.inr 0)]) rfl ⟨by omega, by omega⟩ (re_side (g := g) (s := s) hn) ?_
      intro r_1 h_1 e_1; rw [e_1.1, e_1.2]
      refine pg_ca 3 (L := [(6 * n) ≠ 0 ∧ pg_inR i ∧ pg_inR (6 * n)]) (Mc := pm_T_side) (as := [.inr (.inr 0)]) (h0 := rm g s n) (pc := 130) (lv := [(0, .inr (.inr 0)), (1, .inl A), (2, .inl a), (3, .inl t), (4, .inl i)]) (rest := [.inl i, .inl (Int.tmod i (6 * n)), .inl (g 3 a.toNat), .inr (.inr 0)]) rfl ⟨by omega, ⟨by omega, by omega⟩, ⟨by omega, by omega⟩⟩ (re_side (g := g) (s := s) hn) ?_
      intro r_1 h_1 e_1; rw [e_1.1, e_1.2]
      refine pg_ca 1 (L := [(6 * n) ≠ 0 ∧ pg_inR i ∧ pg_inR (6 * n)]) (Mc := pm_T_isFixed) (as := [.inr (.inr 0), .inl (g 3 a.toNat), .inl (Int.tmod i (6 * n)), .inl (Int.tdiv i (6 * n))]) (h0 := rm g s n) (pc := 134) (lv := [(0, .inr (.inr 0)), (1, .inl A), (2, .inl a), (3, .inl t), (4, .inl i)]) (rest := []) rfl ⟨by omega, ⟨by omega, by omega⟩, ⟨by omega, by omega⟩⟩ (re_isFixed (g := g) hB (g 3 a.toNat) (Int.tmod i (6 * n)) (Int.tdiv i (6 * n)) ⟨by omega, by omega⟩ ⟨by omega, by omega⟩ ⟨by omega, by omega⟩) ?_
      intro r_1 h_1 e_1; rw [e_1.1, e_1.2]; have hbx := pg_b_or (mt_pl s n (g 3 a.toNat) (Int.tmod i (6 * n)) (Int.tdiv i (6 * n)) = 6 * n * (Int.tdiv i (6 * n)) + (Int.tmod i (6 * n)))
      refine pg_br 0 (L := []) (P := pg_inR (pg_b (mt_pl s n (g 3 a.toNat) (Int.tmod i (6 * n)) (Int.tdiv i (6 * n)) = 6 * n * (Int.tdiv i (6 * n)) + (Int.tmod i (6 * n))))) (c := (pg_b (mt_pl s n (g 3 a.toNat) (Int.tmod i (6 * n)) (Int.tdiv i (6 * n)) = 6 * n * (Int.tdiv i (6 * n)) + (Int.tmod i (6 * n)))) = 0) (st1 := (224, [(0, .inr (.inr 0)), (1, .inl A), (2, .inl a), (3, .inl t), (4, .inl i)], [], rm (pg_up (pg_up g 0 15 (mt_x s ((g 3 a.toNat) / (n * n)) (Int.tmod i (6 * n)) (Int.tdiv i (6 * n)))) 0 16 (mt_y s ((g 3 a.toNat) / (n * n)) (Int.tmod i (6 * n)) (Int.tdiv i (6 * n)))) s n)) (st2 := (137, [(0, .inr (.inr 0)), (1, .inl A), (2, .inl a), (3, .inl t), (4, .inl i)], [], rm (pg_up (pg_up g 0 15 (mt_x s ((g 3 a.toNat) / (n * n)) (Int.tmod i (6 * n)) (Int.tdiv i (6 * n)))) 0 16 (mt_y s ((g 3 a.toNat) / (n * n)) (Int.tmod i (6 * n)) (Int.tdiv i (6 * n)))) s n)) rfl trivial ⟨by omega, by omega⟩ (fun c_134_3 => ?_) (fun c_134_3 => ?_)
      · refine pg_go 2 (L := []) (st' := (104, [(0, .inr (.inr 0)), (1, .inl A), (2, .inl a), (3, .inl t), (4, .inl (i + 1))], [], rm (pg_up (pg_up g 0 15 (mt_x s ((g 3 a.toNat) / (n * n)) (Int.tmod i (6 * n)) (Int.tdiv i (6 * n)))) 0 16 (mt_y s ((g 3 a.toNat) / (n * n)) (Int.tmod i (6 * n)) (Int.tdiv i (6 * n)))) s n)) rfl trivial ?_
        refine ih _ _ (by omega) (by omega) (rf_0 (rf_0 hf (by decide) _) (by decide) _) (ri_Va_e hi hv (ri_Va_no hvi ?_)) h7
        rw [← epm]
        rcases hbx with h1 | h1
        · exfalso; omega
        · omega
      · refine pg_ca 13 (L := [0 ≤ i ∧ i < (5184 : Int), 0 ≤ a ∧ a < (1728 : Int)]) (Mc := pm_T_kOf) (as := [.inr (.inr 0), .inl (g 3 a.toNat)]) (h0 := rm (pg_up (pg_up g 0 15 (mt_x s ((g 3 a.toNat) / (n * n)) (Int.tmod i (6 * n)) (Int.tdiv i (6 * n)))) 0 16 (mt_y s ((g 3 a.toNat) / (n * n)) (Int.tmod i (6 * n)) (Int.tdiv i (6 * n)))) s n) (pc := 161) (lv := [(0, .inr (.inr 0)), (1, .inl A), (2, .inl a), (3, .inl t), (4, .inl i)]) (rest := [.inl 1, .inl (g 6 i.toNat), .inl i, .inr (.inr 6)]) rfl ⟨⟨by omega, by omega⟩, ⟨by omega, by omega⟩⟩ (re_kOf (g := (pg_up (pg_up g 0 15 (mt_x s ((g 3 a.toNat) / (n * n)) (Int.tmod i (6 * n)) (Int.tdiv i (6 * n)))) 0 16 (mt_y s ((g 3 a.toNat) / (n * n)) (Int.tmod i (6 * n)) (Int.tdiv i (6 * n))))) (s := s) hn (g 3 a.toNat) ⟨by omega, by omega⟩) ?_
        intro r_1 h_1 e_1; rw [e_1.1, e_1.2]
        refine pg_br 7 (L := [0 ≤ i ∧ i < (5184 : Int)]) (P := pg_inR t) (c := t = 0) (st1 := (186, [(0, .inr (.inr 0)), (1, .inl A), (2, .inl a), (3, .inl t), (4, .inl i)], [.inl i, .inr (.inr 4)], pg_up (rm (pg_up (pg_up g 0 15 (mt_x s ((g 3 a.toNat) / (n * n)) (Int.tmod i (6 * n)) (Int.tdiv i (6 * n)))) 0 16 (mt_y s ((g 3 a.toNat) / (n * n)) (Int.tmod i (6 * n)) (Int.tdiv i (6 * n)))) s n) 6 i.toNat (pg_or (g 6 i.toNat) (pg_shl 1 ((g 3 a.toNat) / (n * n)))))) (st2 := (174, [(0, .inr (.inr 0)), (1, .inl A), (2, .inl a), (3, .inl t), (4, .inl i)], [.inl i, .inr (.inr 4)], pg_up (rm (pg_up (pg_up g 0 15 (mt_x s ((g 3 a.toNat) / (n * n)) (Int.tmod i (6 * n)) (Int.tdiv i (6 * n)))) 0 16 (mt_y s ((g 3 a.toNat) / (n * n)) (Int.tmod i (6 * n)) (Int.tdiv i (6 * n)))) s n) 6 i.toNat (pg_or (g 6 i.toNat) (pg_shl 1 ((g 3 a.toNat) / (n * n)))))) rfl ⟨by omega, by omega⟩ ⟨by omega, by omega⟩ (fun c_171_4 => ?_) (fun c_171_4 => ?_)
        · refine pg_br 9 (L := [0 ≤ i ∧ i < (5184 : Int), 0 ≤ i ∧ i < (5184 : Int)]) (P := pg_inR t) (c := t = 0) (st1 := (214, [(0, .inr (.inr 0)), (1, .inl A), (2, .inl a), (3, .inl t), (4, .inl i)], [.inl i, .inr (.inr 5)], pg_up (pg_up (rm (pg_up (pg_up g 0 15 (mt_x s ((g 3 a.toNat) / (n * n)) (Int.tmod i (6 * n)) (Int.tdiv i (6 * n)))) 0 16 (mt_y s ((g 3 a.toNat) / (n * n)) (Int.tmod i (6 * n)) (Int.tdiv i (6 * n)))) s n) 6 i.toNat (pg_or (g 6 i.toNat) (pg_shl 1 ((g 3 a.toNat) / (n * n))))) 4 i.toNat (g 4 i.toNat))) (st2 := (204, [(0, .inr (.inr 0)), (1, .inl A), (2, .inl a), (3, .inl t), (4, .inl i)], [.inl i, .inr (.inr 5)], pg_up (pg_up (rm (pg_up (pg_up g 0 15 (mt_x s ((g 3 a.toNat) / (n * n)) (Int.tmod i (6 * n)) (Int.tdiv i (6 * n)))) 0 16 (mt_y s ((g 3 a.toNat) / (n * n)) (Int.tmod i (6 * n)) (Int.tdiv i (6 * n)))) s n) 6 i.toNat (pg_or (g 6 i.toNat) (pg_shl 1 ((g 3 a.toNat) / (n * n))))) 4 i.toNat (g 4 i.toNat))) rfl ⟨⟨by omega, by omega⟩, ⟨by omega, by omega⟩⟩ ⟨by omega, by omega⟩ (fun c_201_5 => ?_) (fun c_201_5 => ?_)
          · refine pg_go 9 (L := [0 ≤ i ∧ i < (5184 : Int), 0 ≤ i ∧ i < (5184 : Int)]) (st' := (104, [(0, .inr (.inr 0)), (1, .inl A), (2, .inl a), (3, .inl t), (4, .inl (i + 1))], [], pg_up (pg_up (pg_up (rm (pg_up (pg_up g 0 15 (mt_x s ((g 3 a.toNat) / (n * n)) (Int.tmod i (6 * n)) (Int.tdiv i (6 * n)))) 0 16 (mt_y s ((g 3 a.toNat) / (n * n)) (Int.tmod i (6 * n)) (Int.tdiv i (6 * n)))) s n) 6 i.toNat (pg_or (g 6 i.toNat) (pg_shl 1 ((g 3 a.toNat) / (n * n))))) 4 i.toNat (g 4 i.toNat)) 5 i.toNat ((g 5 i.toNat) + 1))) rfl ⟨⟨by omega, by omega⟩, ⟨by omega, by omega⟩⟩ ?_
            rw [rm_upq (q := 6) (by decide), rm_upq (q := 4) (by decide), rm_upq (q := 5) (by decide)]
            have hfx : mt_pm s n ((fun b => (g0 3 b).toNat) a.toNat) i.toNat = i.toNat := by
              rw [← epm]
              rcases hbx with h1 | h1
              · omega
              · exfalso; omega
            have hst := ri_Va_m hvi hfx (by rw [eL]; omega) (by rw [eL, e3]; omega)
            rw [eL] at hst
            exact ih _ _ (by omega) (by omega) (rf_q (rf_q (rf_q (rf_0 (rf_0 hf (by decide) _) (by decide) _) (by decide) (by decide) _ _) (by decide) (by decide) _ _) (by decide) (by decide) _ _) (ri_Va_s hi hv hst) h7
          · refine pg_go 8 (L := [0 ≤ i ∧ i < (5184 : Int), 0 ≤ i ∧ i < (5184 : Int)]) (st' := (104, [(0, .inr (.inr 0)), (1, .inl A), (2, .inl a), (3, .inl t), (4, .inl (i + 1))], [], pg_up (pg_up (pg_up (rm (pg_up (pg_up g 0 15 (mt_x s ((g 3 a.toNat) / (n * n)) (Int.tmod i (6 * n)) (Int.tdiv i (6 * n)))) 0 16 (mt_y s ((g 3 a.toNat) / (n * n)) (Int.tmod i (6 * n)) (Int.tdiv i (6 * n)))) s n) 6 i.toNat (pg_or (g 6 i.toNat) (pg_shl 1 ((g 3 a.toNat) / (n * n))))) 4 i.toNat (g 4 i.toNat)) 5 i.toNat (g 5 i.toNat))) rfl ⟨⟨by omega, by omega⟩, ⟨by omega, by omega⟩⟩ ?_
            rw [rm_upq (q := 6) (by decide), rm_upq (q := 4) (by decide), rm_upq (q := 5) (by decide)]
            exfalso; omega
        · refine pg_br 12 (L := [0 ≤ i ∧ i < (5184 : Int), 0 ≤ i ∧ i < (5184 : Int)]) (P := pg_inR t) (c := t = 0) (st1 := (214, [(0, .inr (.inr 0)), (1, .inl A), (2, .inl a), (3, .inl t), (4, .inl i)], [.inl i, .inr (.inr 5)], pg_up (pg_up (rm (pg_up (pg_up g 0 15 (mt_x s ((g 3 a.toNat) / (n * n)) (Int.tmod i (6 * n)) (Int.tdiv i (6 * n)))) 0 16 (mt_y s ((g 3 a.toNat) / (n * n)) (Int.tmod i (6 * n)) (Int.tdiv i (6 * n)))) s n) 6 i.toNat (pg_or (g 6 i.toNat) (pg_shl 1 ((g 3 a.toNat) / (n * n))))) 4 i.toNat ((g 4 i.toNat) + 1))) (st2 := (204, [(0, .inr (.inr 0)), (1, .inl A), (2, .inl a), (3, .inl t), (4, .inl i)], [.inl i, .inr (.inr 5)], pg_up (pg_up (rm (pg_up (pg_up g 0 15 (mt_x s ((g 3 a.toNat) / (n * n)) (Int.tmod i (6 * n)) (Int.tdiv i (6 * n)))) 0 16 (mt_y s ((g 3 a.toNat) / (n * n)) (Int.tmod i (6 * n)) (Int.tdiv i (6 * n)))) s n) 6 i.toNat (pg_or (g 6 i.toNat) (pg_shl 1 ((g 3 a.toNat) / (n * n))))) 4 i.toNat ((g 4 i.toNat) + 1))) rfl ⟨⟨by omega, by omega⟩, ⟨by omega, by omega⟩⟩ ⟨by omega, by omega⟩ (fun c_201_6 => ?_) (fun c_201_6 => ?_)
          · refine pg_go 9 (L := [0 ≤ i ∧ i < (5184 : Int), 0 ≤ i ∧ i < (5184 : Int)]) (st' := (104, [(0, .inr (.inr 0)), (1, .inl A), (2, .inl a), (3, .inl t), (4, .inl (i + 1))], [], pg_up (pg_up (pg_up (rm (pg_up (pg_up g 0 15 (mt_x s ((g 3 a.toNat) / (n * n)) (Int.tmod i (6 * n)) (Int.tdiv i (6 * n)))) 0 16 (mt_y s ((g 3 a.toNat) / (n * n)) (Int.tmod i (6 * n)) (Int.tdiv i (6 * n)))) s n) 6 i.toNat (pg_or (g 6 i.toNat) (pg_shl 1 ((g 3 a.toNat) / (n * n))))) 4 i.toNat ((g 4 i.toNat) + 1)) 5 i.toNat ((g 5 i.toNat) + 1))) rfl ⟨⟨by omega, by omega⟩, ⟨by omega, by omega⟩⟩ ?_
            rw [rm_upq (q := 6) (by decide), rm_upq (q := 4) (by decide), rm_upq (q := 5) (by decide)]
            exfalso; omega
          · refine pg_go 8 (L := [0 ≤ i ∧ i < (5184 : Int), 0 ≤ i ∧ i < (5184 : Int)]) (st' := (104, [(0, .inr (.inr 0)), (1, .inl A), (2, .inl a), (3, .inl t), (4, .inl (i + 1))], [], pg_up (pg_up (pg_up (rm (pg_up (pg_up g 0 15 (mt_x s ((g 3 a.toNat) / (n * n)) (Int.tmod i (6 * n)) (Int.tdiv i (6 * n)))) 0 16 (mt_y s ((g 3 a.toNat) / (n * n)) (Int.tmod i (6 * n)) (Int.tdiv i (6 * n)))) s n) 6 i.toNat (pg_or (g 6 i.toNat) (pg_shl 1 ((g 3 a.toNat) / (n * n))))) 4 i.toNat ((g 4 i.toNat) + 1)) 5 i.toNat (g 5 i.toNat))) rfl ⟨⟨by omega, by omega⟩, ⟨by omega, by omega⟩⟩ ?_
            rw [rm_upq (q := 6) (by decide), rm_upq (q := 4) (by decide), rm_upq (q := 5) (by decide)]
            have hfx : mt_pm s n ((fun b => (g0 3 b).toNat) a.toNat) i.toNat = i.toNat := by
              rw [← epm]
              rcases hbx with h1 | h1
              · omega
              · exfalso; omega
            have hst := ri_Va_t hvi hfx (by rw [eL]; omega) (by rw [eL, e3]; omega)
            rw [eL] at hst
            exact ih _ _ (by omega) (by omega) (rf_q (rf_q (rf_q (rf_0 (rf_0 hf (by decide) _) (by decide) _) (by decide) (by decide) _ _) (by decide) (by decide) _ _) (by decide) (by decide) _ _) (ri_Va_s hi hv hst) h7
set_option maxRecDepth 20000 in
set_option maxHeartbeats 4000000 in
theorem re_fp_b {g0 : pg_H} {s n : Int} (hB0 : rm_B g0 s n) (hS0 : ri_S g0 s n) {A : Int} (hA : A = 6 * n * (6 * n)) : ∀ (d : Nat) (g : pg_H) (a : Int) (hd : a + (d : Int) = pg_cn (mt_sm (g0 1) s n) (2 * mt_rd s * (n * n)).toNat) (ha : 0 ≤ a) (hf : rf [4, 5, 6, 7, 8] [13, 15, 16] g0 g) (hv : ∀ j : Nat, (j : Int) < A → ri_Va (fun b => (g0 3 b).toNat) s n j a.toNat (g 4 j) (g 5 j) (g 6 j)) (h7 : ∀ j : Nat, (j : Int) < A → g 7 j = -1), pg_Good false pm_T_findPlaces (fun r h' => r = none ∧ ∃ g', h' = rm g' s n ∧ rf [4, 5, 6, 7, 8] [13, 15, 16] g0 g' ∧ ri_P g' s n) (70, [(0, .inr (.inr 0)), (1, .inl A), (2, .inl a)], [], rm g s n) := by
  intro d
  induction d with
  | zero =>
    intro g a hd ha hf hv h7
    have hB := rm_B_fr hB0 hf (by decide)
    obtain ⟨hs, hn, -⟩ := id hB
    obtain ⟨hn1, hn2⟩ := id hn
    have hr := mt_rd_or hs
    have h66 := mt_66 hn1 hn2
    have hN := mt_2rn hs hn
    have e3 : g 3 = g0 3 := hf.1 3 (by decide) (by decide)
    have e6 : g 0 6 = g0 0 6 := hf.2 6 (by decide)
    have hcb := pg_cn_bd (mt_sm (g0 1) s n) (2 * mt_rd s * (n * n)).toNat
    have h6 : g0 0 6 = pg_cn (mt_sm (g0 1) s n) (2 * mt_rd s * (n * n)).toNat := hS0.1
    refine pg_br 3 (L := []) (P := pg_inR a ∧ pg_inR (g 0 6)) (c := (g 0 6) ≤ a) (st1 := (236, [(0, .inr (.inr 0)), (1, .inl A), (2, .inl a)], [], rm g s n)) (st2 := (78, [(0, .inr (.inr 0)), (1, .inl A), (2, .inl a)], [], rm g s n)) rfl trivial ⟨⟨by omega, by omega⟩, ⟨by omega, by omega⟩⟩ (fun c_75_1 => ?_) (fun c_75_1 => ?_)
    · refine pg_go 5 (L := []) (st' := (243, [(0, .inr (.inr 0)), (1, .inl A), (2, .inl 0)], [], pg_up (rm g s n) 0 13 0)) rfl trivial ?_
      rw [rm_up0 (i := 13) (by decide) (by decide)]
      refine re_fp_d hB0 hS0 hA (g1 := pg_up g 0 13 0) (rf_0 hf (by decide) _) (fun j hj => ?_) A.toNat _ 0 (by omega) (by omega) (rf_rf _ _ _) (fun x hx => ?_) ?_ (fun j hj => absurd hj (by omega))
      · have h1 := hv j hj
        rw [show a = pg_cn (mt_sm (g0 1) s n) (2 * mt_rd s * (n * n)).toNat by omega] at h1
        exact ri_Va_end (fun m h2 => hS0.2 m (by omega)) h1
      · exact h7 x hx
      · rfl
    · exact (by exfalso; omega)
  | succ d ih =>
    intro g a hd ha hf hv h7
    have hB := rm_B_fr hB0 hf (by decide)
    obtain ⟨hs, hn, -⟩ := id hB
    obtain ⟨hn1, hn2⟩ := id hn
    have hr := mt_rd_or hs
    have h66 := mt_66 hn1 hn2
    have hN := mt_2rn hs hn
    have e3 : g 3 = g0 3 := hf.1 3 (by decide) (by decide)
    have e6 : g 0 6 = g0 0 6 := hf.2 6 (by decide)
    have hcb := pg_cn_bd (mt_sm (g0 1) s n) (2 * mt_rd s * (n * n)).toNat
    have h6 : g0 0 6 = pg_cn (mt_sm (g0 1) s n) (2 * mt_rd s * (n * n)).toNat := hS0.1
    obtain ⟨m, hm1, hm2, hm3⟩ := pg_cn_ex (show 0 ≤ a by omega) (show a < pg_cn (mt_sm (g0 1) s n) (2 * mt_rd s * (n * n)).toNat by omega)
    have hma : g 3 a.toNat = (m : Int) := by
      have h1 := hS0.2 m (by omega) hm2
      rw [hm3] at h1
      rw [e3]; exact h1
    have hka := mt_kof hn1 (show 0 ≤ g 3 a.toNat ∧ g 3 a.toNat < 2 * mt_rd s * (n * n) by omega)
    have eL : (((fun b => (g0 3 b).toNat) a.toNat : Nat) : Int) = g 3 a.toNat := by show (((g0 3 a.toNat).toNat : Nat) : Int) = _; rw [← e3]; omega
    have hga : g0 3 a.toNat / (n * n) = g 3 a.toNat / (n * n) := by rw [e3]
    refine pg_br 3 (L := []) (P := pg_inR a ∧ pg_inR (g 0 6)) (c := (g 0 6) ≤ a) (st1 := (236, [(0, .inr (.inr 0)), (1, .inl A), (2, .inl a)], [], rm g s n)) (st2 := (78, [(0, .inr (.inr 0)), (1, .inl A), (2, .inl a)], [], rm g s n)) rfl trivial ⟨⟨by omega, by omega⟩, ⟨by omega, by omega⟩⟩ (fun c_75_2 => ?_) (fun c_75_2 => ?_)
    · exact (by exfalso; omega)
    · refine pg_ca 5 (L := [0 ≤ a ∧ a < (1728 : Int)]) (Mc := pm_T_kOf) (as := [.inr (.inr 0), .inl (g 3 a.toNat)]) (h0 := rm g s n) (pc := 88) (lv := [(0, .inr (.inr 0)), (1, .inl A), (2, .inl a)]) (rest := []) rfl ⟨by omega, by omega⟩ (re_kOf (g := g) (s := s) hn (g 3 a.toNat) ⟨by omega, by omega⟩) ?_
      intro r_1 h_1 e_1; rw [e_1.1, e_1.2]
      refine pg_ca 1 (L := []) (Mc := pm_T_round) (as := [.inr (.inr 0)]) (h0 := rm g s n) (pc := 92) (lv := [(0, .inr (.inr 0)), (1, .inl A), (2, .inl a)]) (rest := [.inl ((g 3 a.toNat) / (n * n))]) rfl trivial (re_round (g := g) (n := n) hs) ?_
      intro r_1 h_1 e_1; rw [e_1.1, e_1.2]
      refine pg_br 0 (L := []) (P := pg_inR ((g 3 a.toNat) / (n * n)) ∧ pg_inR (mt_rd s)) (c := (mt_rd s) ≤ ((g 3 a.toNat) / (n * n))) (st1 := (99, [(0, .inr (.inr 0)), (1, .inl A), (2, .inl a)], [], rm g s n)) (st2 := (95, [(0, .inr (.inr 0)), (1, .inl A), (2, .inl a)], [], rm g s n)) rfl trivial ⟨⟨by omega, by omega⟩, ⟨by omega, by omega⟩⟩ (fun c_92_3 => ?_) (fun c_92_3 => ?_)
      · refine pg_go 4 (L := []) (st' := (104, [(0, .inr (.inr 0)), (1, .inl A), (2, .inl a), (3, .inl 0), (4, .inl 0)], [], rm g s n)) rfl trivial ?_
        refine re_fp_c hB0 hS0 hA (a := a) (by omega) (by omega) ?_ A.toNat g 0 (by omega) (by omega) hf (fun j hj => ?_) h7
        · intro g2 k1 k2 k3
          exact ih _ _ (by omega) (by omega) k1 k2 k3
        · rw [if_neg (by omega)]; exact hv j hj
      · refine pg_go 5 (L := []) (st' := (104, [(0, .inr (.inr 0)), (1, .inl A), (2, .inl a), (3, .inl 1), (4, .inl 0)], [], rm g s n)) rfl trivial ?_
        refine re_fp_c hB0 hS0 hA (a := a) (by omega) (by omega) ?_ A.toNat g 0 (by omega) (by omega) hf (fun j hj => ?_) h7
        · intro g2 k1 k2 k3
          exact ih _ _ (by omega) (by omega) k1 k2 k3
        · rw [if_neg (by omega)]; exact hv j hj
set_option maxRecDepth 20000 in
set_option maxHeartbeats 4000000 in
theorem re_fp_a {g0 : pg_H} {s n : Int} (hB0 : rm_B g0 s n) (hS0 : ri_S g0 s n) {A : Int} (hA : A = 6 * n * (6 * n)) : ∀ (d : Nat) (g : pg_H) (i : Int) (hd : i + (d : Int) = A) (hi : 0 ≤ i) (hf : rf [4, 5, 6, 7, 8] [13, 15, 16] g0 g) (hz : ∀ j : Nat, (j : Int) < i → g 4 j = 0 ∧ g 5 j = 0 ∧ g 6 j = 0 ∧ g 7 j = -1), pg_Good false pm_T_findPlaces (fun r h' => r = none ∧ ∃ g', h' = rm g' s n ∧ rf [4, 5, 6, 7, 8] [13, 15, 16] g0 g' ∧ ri_P g' s n) (29, [(0, .inr (.inr 0)), (1, .inl A), (2, .inl i)], [], rm g s n) := by
  intro d
  induction d with
  | zero =>
    intro g i hd hi hf hz
    have hB := rm_B_fr hB0 hf (by decide)
    obtain ⟨hs, hn, -⟩ := id hB
    obtain ⟨hn1, hn2⟩ := id hn
    have hr := mt_rd_or hs
    have h66 := mt_66 hn1 hn2
    have hN := mt_2rn hs hn
    have e3 : g 3 = g0 3 := hf.1 3 (by decide) (by decide)
    have e6 : g 0 6 = g0 0 6 := hf.2 6 (by decide)
    have hcb := pg_cn_bd (mt_sm (g0 1) s n) (2 * mt_rd s * (n * n)).toNat
    have h6 : g0 0 6 = pg_cn (mt_sm (g0 1) s n) (2 * mt_rd s * (n * n)).toNat := hS0.1
    refine pg_br 2 (L := []) (P := pg_inR i ∧ pg_inR A) (c := A ≤ i) (st1 := (68, [(0, .inr (.inr 0)), (1, .inl A), (2, .inl i)], [], rm g s n)) (st2 := (34, [(0, .inr (.inr 0)), (1, .inl A), (2, .inl i)], [], rm g s n)) rfl trivial ⟨⟨by omega, by omega⟩, ⟨by omega, by omega⟩⟩ (fun c_31_1 => ?_) (fun c_31_1 => ?_)
    · refine pg_go 2 (L := []) (st' := (70, [(0, .inr (.inr 0)), (1, .inl A), (2, .inl 0)], [], rm g s n)) rfl trivial ?_
      refine re_fp_b hB0 hS0 hA (pg_cn (mt_sm (g0 1) s n) (2 * mt_rd s * (n * n)).toNat).toNat g 0 (by omega) (by omega) hf (fun j hj => ?_) (fun j hj => (hz j (by omega)).2.2.2)
      have h1 := hz j (by omega)
      rw [h1.1, h1.2.1, h1.2.2.1]
      exact ri_Va_0
    · exact (by exfalso; omega)
  | succ d ih =>
    intro g i hd hi hf hz
    have hB := rm_B_fr hB0 hf (by decide)
    obtain ⟨hs, hn, -⟩ := id hB
    obtain ⟨hn1, hn2⟩ := id hn
    have hr := mt_rd_or hs
    have h66 := mt_66 hn1 hn2
    have hN := mt_2rn hs hn
    have e3 : g 3 = g0 3 := hf.1 3 (by decide) (by decide)
    have e6 : g 0 6 = g0 0 6 := hf.2 6 (by decide)
    have hcb := pg_cn_bd (mt_sm (g0 1) s n) (2 * mt_rd s * (n * n)).toNat
    have h6 : g0 0 6 = pg_cn (mt_sm (g0 1) s n) (2 * mt_rd s * (n * n)).toNat := hS0.1
    refine pg_br 2 (L := []) (P := pg_inR i ∧ pg_inR A) (c := A ≤ i) (st1 := (68, [(0, .inr (.inr 0)), (1, .inl A), (2, .inl i)], [], rm g s n)) (st2 := (34, [(0, .inr (.inr 0)), (1, .inl A), (2, .inl i)], [], rm g s n)) rfl trivial ⟨⟨by omega, by omega⟩, ⟨by omega, by omega⟩⟩ (fun c_31_2 => ?_) (fun c_31_2 => ?_)
    · exact (by exfalso; omega)
    · refine pg_go 22 (L := [0 ≤ i ∧ i < (5184 : Int), 0 ≤ i ∧ i < (5184 : Int), 0 ≤ i ∧ i < (5184 : Int), 0 ≤ i ∧ i < (5184 : Int)]) (st' := (29, [(0, .inr (.inr 0)), (1, .inl A), (2, .inl (i + 1))], [], pg_up (pg_up (pg_up (pg_up (rm g s n) 4 i.toNat 0) 5 i.toNat 0) 6 i.toNat 0) 7 i.toNat (-1))) rfl ⟨⟨by omega, by omega⟩, ⟨by omega, by omega⟩, ⟨by omega, by omega⟩, ⟨by omega, by omega⟩⟩ ?_
      rw [rm_upq (q := 4) (by decide), rm_upq (q := 5) (by decide), rm_upq (q := 6) (by decide), rm_upq (q := 7) (by decide)]
      refine ih _ _ (by omega) (by omega) (rf_q (rf_q (rf_q (rf_q hf (by decide) (by decide) _ _) (by decide) (by decide) _ _) (by decide) (by decide) _ _) (by decide) (by decide) _ _) (fun j hj => ?_)
      have e9 : ∀ (G : pg_H) (q q' i : Nat) (z : Int), q' ≠ q → pg_up G q i z q' j = G q' j := fun G q q' i z h => by rw [pg_up_ne _ _ _ h]
      rw [e9 _ 7 4 _ _ (by decide), e9 _ 6 4 _ _ (by decide), e9 _ 5 4 _ _ (by decide), pg_up_at]
      rw [e9 _ 7 5 _ _ (by decide), e9 _ 6 5 _ _ (by decide), pg_up_at, e9 _ 4 5 _ _ (by decide)]
      rw [e9 _ 7 6 _ _ (by decide), pg_up_at, e9 _ 5 6 _ _ (by decide), e9 _ 4 6 _ _ (by decide)]
      rw [pg_up_at, e9 _ 6 7 _ _ (by decide), e9 _ 5 7 _ _ (by decide), e9 _ 4 7 _ _ (by decide)]
      by_cases hc : j = i.toNat
      · rw [if_pos hc, if_pos hc, if_pos hc, if_pos hc]; exact ⟨rfl, rfl, rfl, rfl⟩
      · rw [if_neg hc, if_neg hc, if_neg hc, if_neg hc]; exact hz j (by omega)
set_option maxRecDepth 20000 in
set_option maxHeartbeats 4000000 in
theorem re_findPlaces {g : pg_H} {s n : Int} (hB : rm_B g s n) (hC : ri_C g) (hK : ri_K g s n) (hJ : ri_J g s n) : pg_Sem false pm_T_findPlaces [.inr (.inr 0)] (rm g s n) (fun r h' => r = none ∧ ∃ g', h' = rm g' s n ∧ rf [3, 4, 5, 6, 7, 8] [6, 7, 8, 13, 15, 16] g g' ∧ g' 0 8 = 1 ∧ g' 0 7 = 1 ∧ ri_S g' s n ∧ ri_P g' s n) := by
  obtain ⟨hs, hn, hT⟩ := id hB
  obtain ⟨hn1, hn2⟩ := id hn
  have hr := mt_rd_or hs
  have h66 := mt_66 hn1 hn2
  have h88 : g 0 8 = 0 ∨ (g 0 8 = 1 ∧ g 0 7 = 1 ∧ ri_S g s n ∧ ri_P g s n) := hJ
  refine pg_Sem_of pm_T_findPlaces_f rfl ?_
  refine pg_br 2 (L := []) (P := pg_inR (g 0 8)) (c := (g 0 8) = 0) (st1 := (8, [(0, .inr (.inr 0))], [], rm g s n)) (st2 := (7, [(0, .inr (.inr 0))], [], rm g s n)) rfl trivial ⟨by omega, by omega⟩ (fun c_4_1 => ?_) (fun c_4_1 => ?_)
  · refine pg_ca 1 (L := []) (Mc := pm_T_findSymmetries) (as := [.inr (.inr 0)]) (h0 := rm g s n) (pc := 12) (lv := [(0, .inr (.inr 0))]) (rest := []) rfl trivial (re_findSymmetries (g := g) hB hC hK) ?_
    intro r_1 h_1 e_1; obtain ⟨er_, g21, eh_, ef21, e721, hS21⟩ := e_1; rw [er_, eh_]; have hB21 := rm_B_fr hB ef21 (by decide); have hC21 := ri_C_fr hC ef21 (by decide)
    have e1_21 : g21 1 = g 1 := ef21.1 1 (by decide) (by decide)
    refine pg_go 4 (L := [1 = 0 ∨ 1 = 1]) (st' := (18, [(0, .inr (.inr 0))], [.inr (.inr 0)], pg_up (rm g21 s n) 0 8 1)) rfl (Or.inr rfl) ?_
    rw [rm_up0 (i := 8) (by decide) (by decide)]
    refine pg_ca 0 (L := []) (Mc := pm_T_side) (as := [.inr (.inr 0)]) (h0 := rm (pg_up g21 0 8 1) s n) (pc := 21) (lv := [(0, .inr (.inr 0))]) (rest := []) rfl trivial (re_side (g := (pg_up g21 0 8 1)) (s := s) hn) ?_
    intro r_1 h_1 e_1; rw [e_1.1, e_1.2]
    refine pg_ca 1 (L := []) (Mc := pm_T_side) (as := [.inr (.inr 0)]) (h0 := rm (pg_up g21 0 8 1) s n) (pc := 25) (lv := [(0, .inr (.inr 0))]) (rest := [.inl (6 * n)]) rfl trivial (re_side (g := (pg_up g21 0 8 1)) (s := s) hn) ?_
    intro r_1 h_1 e_1; rw [e_1.1, e_1.2]
    refine pg_go 4 (L := []) (st' := (29, [(0, .inr (.inr 0)), (1, .inl ((6 * n) * (6 * n))), (2, .inl 0)], [], rm (pg_up g21 0 8 1) s n)) rfl trivial ?_
    have hfz : rf [] [8] g21 (pg_up g21 0 8 1) := (rf_0 (rf_rf _ _ _) (by decide) _)
    refine po_st_mono (re_fp_a (rm_B_fr hB21 hfz (by decide)) (ri_S_fr hS21 hfz (by decide)) rfl (6 * n * (6 * n)).toNat _ 0 (by omega) (by omega) (rf_rf _ _ _) (fun j hj => absurd hj (by omega))) (fun r_ h_ hq => ?_)
    obtain ⟨q1, g3, q2, q3, q4⟩ := hq
    refine ⟨q1, g3, q2, rf_tr (rf_w ef21 (by decide) (by decide)) (rf_tr (rf_w hfz (cs := [3, 4, 5, 6, 7, 8]) (fs := [6, 7, 8, 13, 15, 16]) (by decide) (by decide)) q3 (by decide) (by decide)) (by decide) (by decide), ?_, ?_, ri_S_fr (ri_S_fr hS21 hfz (by decide)) q3 (by decide), q4⟩
    · rw [q3.2 8 (by decide)]; rfl
    · rw [q3.2 7 (by decide)]; exact e721
  · refine pg_re 0 (L := []) (r := none) (h0 := rm g s n) rfl trivial ?_
    rcases hJ with h1 | h1
    · exfalso; omega
    · exact ⟨rfl, g, rfl, rf_rf _ _ _, h1.1, h1.2.1, h1.2.2.1, h1.2.2.2⟩
