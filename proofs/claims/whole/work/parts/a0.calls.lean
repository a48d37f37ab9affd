/-! the calls, side by side -/
/-- the class's object and the reference's hold the same -/
def jn (h g : pg_H) (s n : Int) : Prop := ci_I h s n ∧ (rm_B g s n ∧ ri_C g ∧ ri_G g s n ∧ ri_K g s n ∧ ri_J g s n) ∧ (∀ p : Nat, (p : Int) < n * n → h 7 p = g 1 p) ∧ h 20 4 = g 0 3 ∧ ∀ j : Nat, (j : Int) < g 0 3 → h 21 j = mt_cd n (g 2 (3 * j)) (g 2 (3 * j + 1)) (g 2 (3 * j + 2))
def jx (h H : pg_H) : Prop := ∃ (g : pg_H) (s n : Int), H = rm g s n ∧ jn h g s n
/-- a call on both: the same answer, and the same is held again -/
def jw (M1 M2 : pg_M) (as : List pg_V) (h H : pg_H) : Prop := ∃ Q1 Q2 : Option pg_V → pg_H → Prop, pg_Sem true M1 as h Q1 ∧ pg_Sem false M2 as H Q2 ∧ ∀ r1 h1 r2 h2, Q1 r1 h1 → Q2 r2 h2 → ∃ z : Int, r1 = some (.inl z) ∧ r2 = some (.inl z) ∧ jx h1 h2
section
variable {h g : pg_H} {s n : Int}
theorem jn_c {h' : pg_H} (hj : jn h g s n) (hq : ci_Q h h' s n) : jn h' g s n := by
  obtain ⟨a, b, c, d, e⟩ := hj
  obtain ⟨q1, q2, q3, q4⟩ := hq
  refine ⟨q1, b, ?_, ?_, ?_⟩
  · rw [q2]; exact c
  · rw [q3]; exact d
  · rw [q4]; exact e
theorem jn_r {cs fs : List Nat} {g' : pg_H} (hj : jn h g s n) (hf : rf cs fs g g') (hc : (1 ∉ cs ∧ 2 ∉ cs ∧ 3 ∉ fs) ∧ 9 ∉ cs ∧ 10 ∉ cs ∧ 11 ∉ cs ∧ 12 ∉ cs) (hK : ri_K g' s n) (hJ : ri_J g' s n) : jn h g' s n := by
  obtain ⟨a, ⟨b1, b2, b3, b4, b5⟩, c, d, e⟩ := hj
  refine ⟨a, ⟨rm_B_fr b1 hf hc.2, ri_C_fr b2 hf hc.1.1, ri_G_fr b3 hf ⟨hc.1.2.1, hc.1.2.2⟩, hK, hJ⟩, ?_, ?_, ?_⟩
  · rw [hf.1 1 (by decide) hc.1.1]; exact c
  · rw [hf.2 3 hc.1.2.2]; exact d
  · rw [hf.2 3 hc.1.2.2, hf.1 2 (by decide) hc.1.2.1]; exact e
/-- where neither symmetries nor places are touched -/
theorem jn_r0 {cs fs : List Nat} {g' : pg_H} (hj : jn h g s n) (hf : rf cs fs g g') (hc : (1 ∉ cs ∧ 2 ∉ cs ∧ 3 ∉ fs) ∧ 9 ∉ cs ∧ 10 ∉ cs ∧ 11 ∉ cs ∧ 12 ∉ cs) (h1 : 1 ∉ cs ∧ 3 ∉ cs ∧ 6 ∉ fs ∧ 7 ∉ fs) (h2 : 1 ∉ cs ∧ 4 ∉ cs ∧ 5 ∉ cs ∧ 6 ∉ cs ∧ 7 ∉ cs ∧ 8 ∉ cs ∧ 13 ∉ fs ∧ 8 ∉ fs) : jn h g' s n := by
  obtain ⟨-, ⟨-, -, -, b4, b5⟩, -⟩ := id hj
  have hK := ri_K_fr b4 hf h1
  exact jn_r hj hf hc hK (ri_J_fr b5 hf hK (fun h7 => by rw [hf.2 7 h1.2.2.2]; exact h7) h2)
/-- where symmetries may have been looked for -/
theorem jn_rs {g' : pg_H} {cs : List Nat} (hj : jn h g s n) (hf : rf cs [6, 7, 15, 16] g g') (hK : ri_K g' s n) (h7 : g 0 7 = 1 → g' 0 7 = 1) (hc : (1 ∉ cs ∧ 2 ∉ cs ∧ 3 ∉ [6, 7, 15, 16]) ∧ 9 ∉ cs ∧ 10 ∉ cs ∧ 11 ∉ cs ∧ 12 ∉ cs) (h2 : 1 ∉ cs ∧ 4 ∉ cs ∧ 5 ∉ cs ∧ 6 ∉ cs ∧ 7 ∉ cs ∧ 8 ∉ cs ∧ 13 ∉ [6, 7, 15, 16] ∧ 8 ∉ [6, 7, 15, 16]) : jn h g' s n := by
  obtain ⟨-, ⟨-, -, -, b4, b5⟩, -⟩ := id hj
  exact jn_r hj hf hc hK (ri_J_fr b5 hf hK h7 h2)
theorem jn_D {h' : pg_H} (hj : jn h g s n) (hJ : cq_J h' s n) (e7 : h' 7 = h 7) : gr_D h' s n (mt_sym (g 1) s n) := by
  obtain ⟨-, ⟨b1, -⟩, c, -⟩ := hj
  refine gr_D_cg (gr_D_of b1.1 b1.2.1.1 hJ.2.2) (fun k u v => gr_cg b1.2.1 (fun p hp => ?_))
  rw [e7]
  exact c p hp
theorem jn_same {h1 : pg_H} (hj : jn h g s n) (e : h1 = h) : jx h1 (rm g s n) := ⟨g, s, n, rfl, by rw [e]; exact hj⟩
theorem gr_Ccg {a b : Nat → Int} (hn : 1 ≤ n ∧ n ≤ 12) (h : ∀ p : Nat, (p : Int) < n * n → a p = b p) (x y : Int) : gr_C a n x y = gr_C b n x y := by
  have := mt_pt_bd hn.1 hn.2 (mt_mod hn.1 x) (mt_mod hn.1 y)
  exact h _ (by omega)
theorem gr_concg {a b : Nat → Int} (hn : 1 ≤ n ∧ n ≤ 12) (h : ∀ p : Nat, (p : Int) < n * n → a p = b p) (k u v : Int) : mt_con a s n k u v ↔ mt_con b s n k u v := by
  rw [gr_con_iff hn.1, gr_con_iff hn.1]
  unfold gr_con
  simp only [gr_Ccg hn h]
theorem gr_imgcg {a b : Nat → Int} (hn : 1 ≤ n ∧ n ≤ 12) (h : ∀ p : Nat, (p : Int) < n * n → a p = b p) {k u v : Int} {im : Nat → Int} (hi : mt_img a s n k u v im) : mt_img b s n k u v im := by
  rw [gr_img_iff hn] at *
  refine ⟨fun x y => by rw [← gr_Ccg hn h, ← gr_Ccg hn h]; exact hi.1 x y, fun c hc hno => hi.2 c hc (fun x y h1 h2 h3 h4 => ?_)⟩
  have := mt_pt_bd hn.1 hn.2 ⟨h1, h2⟩ ⟨h3, h4⟩
  rw [h _ (by omega)]
  exact hno x y h1 h2 h3 h4
theorem gr_sym_con {col : Nat → Int} {k u v : Int} (hn : 1 ≤ n) (h : mt_sym col s n k u v) : mt_con col s n k u v := by
  rw [gr_con_iff hn]
  intro p q hpq
  have h1 := (gr_sym hn).mp h
  show gr_C col n (mt_x s k p.1 p.2 + u) (mt_y s k p.1 p.2 + v) = gr_C col n (mt_x s k q.1 q.2 + u) (mt_y s k q.1 q.2 + v)
  rw [← h1 p.1 p.2, ← h1 q.1 q.2]
  exact hpq
theorem pa_cg {a b : Nat → Int} {n : Int} (hn : 1 ≤ n ∧ n ≤ 12) (h : ∀ p : Nat, (p : Int) < n * n → a p = b p) (x y D : Int) (j : Nat) : (∀ p : Nat, (p : Int) < n * n → (pa_run n x y D a j).1 p = (pa_run n x y D b j).1 p) ∧ (pa_run n x y D a j).2 = (pa_run n x y D b j).2 := by
  induction j with
  | zero => exact ⟨h, rfl⟩
  | succ j ih =>
    have hb := mt_pt_bd hn.1 hn.2 (mt_mod hn.1 (x + j)) (mt_mod hn.1 y)
    simp only [pa_run]
    refine ⟨fun p hp => ?_, ?_⟩
    · rw [ih.1 p hp]
    · rw [ih.2, ih.1 _ (by omega)]
theorem pa_bd {a : Nat → Int} (h : ∀ p : Nat, p < 144 → 0 ≤ a p ∧ a p ≤ 9) (n x y D : Int) (j : Nat) : ∀ p : Nat, p < 144 → 0 ≤ (pa_run n x y D a j).1 p ∧ (pa_run n x y D a j).1 p ≤ 9 := by
  induction j with
  | zero => exact h
  | succ j ih =>
    intro p hp
    simp only [pa_run]
    split
    · omega
    · exact ih p hp
end
section
variable {h g : pg_H} {s n : Int}
theorem jw_begin (hj : jn h g s n) (a : Int) (ha : pg_inR a) (m : Int) (hm : pg_inR m) : jw pm_P_begin pm_T_begin [.inr (.inr 0), .inl a, .inl m] h (rm g s n) := by
  obtain ⟨hI, ⟨hB, hC, hG, hK, hJ⟩, e1, e2, e3⟩ := id hj
  refine ⟨_, _, ct_begin hI a ha m hm, re_begin hB a ha m hm, ?_⟩
  rintro r1 h1 r2 h2 (⟨p1, p2, p3⟩ | ⟨p1, p2, p3, p4, p5⟩) (⟨q1, q2, q3⟩ | ⟨q1, q2, g', q3, q4, q5, q6, q7, q8⟩)
  · exact ⟨_, p2, q2, by rw [q3]; exact jn_same hj p3⟩
  · exact absurd q1 p1
  · exact absurd p1 q1
  · refine ⟨_, p2, q2, g', a, m, q3, p3, ⟨q4, fun p hp => by rw [q5 p hp]; decide, ⟨by omega, fun j hj => by omega⟩, Or.inl q7, Or.inl q8⟩, fun p hp => ?_, by omega, fun j hj => by omega⟩
    have := mt_nn p1.2.1 p1.2.2
    rw [p4 p (by omega), q5 p (by omega)]
theorem jw_paint (hj : jn h g s n) (x : Int) (hx : pg_inR x) (y : Int) (hy : pg_inR y) (c : Int) (hc : pg_inR c) : jw pm_P_paint pm_T_paint [.inr (.inr 0), .inl x, .inl y, .inl c] h (rm g s n) := by
  obtain ⟨hI, ⟨hB, hC, hG, hK, hJ⟩, e1, e2, e3⟩ := id hj
  have hn := hB.2.1
  have hpt := mt_pt_bd hn.1 hn.2 (mt_mod hn.1 x) (mt_mod hn.1 y)
  refine ⟨_, _, ct_paint hI x hx y hy c hc, re_paint hB x hx y hy c hc, ?_⟩
  rintro r1 h1 r2 h2 (⟨p1, p2, p3⟩ | ⟨p1, p2, p3⟩) (⟨q1, q2, q3⟩ | ⟨q1, q2, g', q3, q4, q5, q6, q7⟩)
  · exact ⟨_, p2, q2, by rw [q3]; exact jn_same hj p3⟩
  · exact absurd q1 p1
  · exact absurd p1 q1
  · rw [e1 _ (by omega)] at p2
    obtain ⟨a1, a2, a3, a4⟩ := p3
    refine ⟨_, p2, q2, g', s, n, q3, a1, ⟨rm_B_fr hB q4 (by decide), fun p hp => ?_, ri_G_fr hG q4 (by decide), Or.inl q6, Or.inl q7⟩, fun p hp => ?_, ?_, ?_⟩
    · rw [q5]
      show 0 ≤ (if p = _ then c else g 1 p) ∧ (if p = _ then c else g 1 p) ≤ 9
      split
      · exact q1
      · exact hC p hp
    · rw [a2, q5]
      show (if p = _ then c else h 7 p) = (if p = _ then c else g 1 p)
      rw [e1 p hp]
    · rw [a3, q4.2 3 (by decide)]; exact e2
    · rw [a4, q4.2 3 (by decide), q4.1 2 (by decide) (by decide)]; exact e3
theorem jw_colour (hj : jn h g s n) (x : Int) (hx : pg_inR x) (y : Int) (hy : pg_inR y) : jw pm_P_colour pm_T_colour [.inr (.inr 0), .inl x, .inl y] h (rm g s n) := by
  obtain ⟨hI, ⟨hB, hC, hG, hK, hJ⟩, e1, e2, e3⟩ := id hj
  have hn := hB.2.1
  have hpt := mt_pt_bd hn.1 hn.2 (mt_mod hn.1 x) (mt_mod hn.1 y)
  refine ⟨_, _, ct_colour hI x hx y hy, re_colour hn x y hx hy, ?_⟩
  rintro r1 h1 r2 h2 ⟨p1, p2⟩ ⟨q1, q2⟩
  rw [e1 _ (by omega)] at p1
  exact ⟨_, p1, q1, g, s, n, q2, jn_c hj p2⟩
theorem jw_paints (hj : jn h g s n) (x : Int) (hx : pg_inR x) (y : Int) (hy : pg_inR y) (w : Int) (hw : pg_inR w) (D : Int) (hD : pg_inR D) : jw pm_P_paints pm_T_paints [.inr (.inr 0), .inl x, .inl y, .inl w, .inl D] h (rm g s n) := by
  obtain ⟨hI, ⟨hB, hC, hG, hK, hJ⟩, e1, e2, e3⟩ := id hj
  have hn := hB.2.1
  refine ⟨_, _, ct_paints hI x hx y hy w hw D hD, re_paints hB hC x hx y hy w hw D hD, ?_⟩
  rintro r1 h1 r2 h2 (⟨p1, p2, p3⟩ | ⟨p1, p2, p3⟩) (⟨q1, q2, q3⟩ | ⟨q1, q2, g', q3, q4, q5, q6, q7⟩)
  · exact ⟨_, p2, q2, by rw [q3]; exact jn_same hj p3⟩
  · exact absurd q1 p1
  · exact absurd p1 q1
  · have hcg := pa_cg hn e1 x y D w.toNat
    rw [pa_run_n, hcg.2] at p2
    rw [pa_run_n] at p3
    obtain ⟨a1, a2, a3, a4⟩ := p3
    refine ⟨_, p2, q2, g', s, n, q3, a1, ⟨rm_B_fr hB q4 (by decide), fun p hp => ?_, ri_G_fr hG q4 (by decide), Or.inl q6, Or.inl q7⟩, fun p hp => ?_, ?_, ?_⟩
    · rw [q5]; exact pa_bd hC n x y D w.toNat p hp
    · rw [a2, q5]; exact hcg.1 p hp
    · rw [a3, q4.2 3 (by decide)]; exact e2
    · rw [a4, q4.2 3 (by decide), q4.1 2 (by decide) (by decide)]; exact e3
theorem jw_goes (hj : jn h g s n) (k : Int) (hk : pg_inR k) (u : Int) (hu : pg_inR u) (v : Int) (hv : pg_inR v) (x : Int) (hx : pg_inR x) (y : Int) (hy : pg_inR y) (w : Int) (hw : pg_inR w) : jw pm_P_goes pm_T_goes [.inr (.inr 0), .inl k, .inl u, .inl v, .inl x, .inl y, .inl w] h (rm g s n) := by
  obtain ⟨hI, ⟨hB, -⟩, -⟩ := id hj
  refine ⟨_, _, ct_goes hI k hk u hu v hv x hx y hy w hw, re_goes hB k hk u hu v hv x hx y hy w hw, ?_⟩
  rintro r1 h1 r2 h2 ⟨p1, p2⟩ ⟨q1, g', q2, q3⟩
  exact ⟨_, p1, q1, g', s, n, q2, jn_c (jn_r0 hj q3 (by decide) (by decide) (by decide)) p2⟩
theorem jw_both (hj : jn h g s n) (k : Int) (hk : pg_inR k) (u : Int) (hu : pg_inR u) (v : Int) (hv : pg_inR v) (j : Int) (hj' : pg_inR j) (x : Int) (hx : pg_inR x) (y : Int) (hy : pg_inR y) (w : Int) (hw : pg_inR w) : jw pm_P_both pm_T_both [.inr (.inr 0), .inl k, .inl u, .inl v, .inl j, .inl x, .inl y, .inl w] h (rm g s n) := by
  obtain ⟨hI, ⟨hB, -⟩, -⟩ := id hj
  refine ⟨_, _, ct_both hI k hk u hu v hv j hj' x hx y hy w hw, re_both hB k hk u hu v hv j hj' x hx y hy w hw, ?_⟩
  rintro r1 h1 r2 h2 ⟨p1, p2⟩ ⟨q1, g', q2, q3⟩
  exact ⟨_, p1, q1, g', s, n, q2, jn_c (jn_r0 hj q3 (by decide) (by decide) (by decide)) p2⟩
theorem jw_back (hj : jn h g s n) (k : Int) (hk : pg_inR k) (u : Int) (hu : pg_inR u) (v : Int) (hv : pg_inR v) (w : Int) (hw : pg_inR w) : jw pm_P_back pm_T_back [.inr (.inr 0), .inl k, .inl u, .inl v, .inl w] h (rm g s n) := by
  obtain ⟨hI, ⟨hB, -⟩, -⟩ := id hj
  refine ⟨_, _, ct_back hI k hk u hu v hv w hw, re_back hB k hk u hu v hv w hw, ?_⟩
  rintro r1 h1 r2 h2 ⟨p1, p2⟩ ⟨q1, g', q2, q3⟩
  exact ⟨_, p1, q1, g', s, n, q2, jn_c (jn_r0 hj q3 (by decide) (by decide) (by decide)) p2⟩
theorem jw_is (hj : jn h g s n) (k : Int) (hk : pg_inR k) (u : Int) (hu : pg_inR u) (v : Int) (hv : pg_inR v) : jw pm_P_is pm_T_is [.inr (.inr 0), .inl k, .inl u, .inl v] h (rm g s n) := by
  obtain ⟨hI, ⟨hB, hC, hG, hK, hJ⟩, e1, e2, e3⟩ := id hj
  have hn := hB.2.1
  refine ⟨_, _, ct_is hI k hk u hu v hv, re_is hB hC k hk u hu v hv, ?_⟩
  rintro r1 h1 r2 h2 ⟨p1, p2⟩ ⟨q1, g', q2, q3⟩
  refine ⟨_, p1, ?_, g', s, n, q2, jn_c (jn_r0 hj q3 (by decide) (by decide) (by decide)) p2⟩
  rw [q1]
  by_cases hkr : 0 ≤ k ∧ k < 2 * mt_rd s
  · rw [if_pos hkr, if_pos hkr]
    have a1 := gr_concg (s := s) hn e1 k (u % n) (v % n)
    have a2 := gr_cg (s := s) (k := k) (u := u % n) (v := v % n) hn e1
    have a3 := gr_chg (col := g 1) (u := u % n) (v := v % n) hB.1 hn hkr
    rcases Classical.em (mt_sym (g 1) s n k (u % n) (v % n)) with h5 | h5
    · rw [pg_if_t h5, pg_if_t (a1.mpr (gr_sym_con hn.1 h5)), pg_if_t (a2.mpr h5)]
    · rw [pg_if_f h5]
      rcases Classical.em (mt_con (g 1) s n k (u % n) (v % n)) with h6 | h6
      · rw [pg_if_t (a3.mpr h6), pg_if_t (a1.mpr h6), pg_if_f (fun q => h5 (a2.mp q))]
      · rw [pg_if_f (fun q => h6 (a3.mp q)), pg_if_f (fun q => h6 (a1.mp q))]
  · rw [if_neg hkr, if_neg hkr]
theorem jw_change (hj : jn h g s n) (k : Int) (hk : pg_inR k) (u : Int) (hu : pg_inR u) (v : Int) (hv : pg_inR v) (c : Int) (hc : pg_inR c) : jw pm_P_change pm_T_change [.inr (.inr 0), .inl k, .inl u, .inl v, .inl c] h (rm g s n) := by
  obtain ⟨hI, ⟨hB, hC, hG, hK, hJ⟩, e1, e2, e3⟩ := id hj
  have hn := hB.2.1
  refine ⟨_, _, ct_change hI k hk u hu v hv c hc, re_change hB hC k hk u hu v hv c hc, ?_⟩
  rintro r1 h1 r2 h2 ⟨z, p1, p2, p3, p4⟩ ⟨z', q1, ⟨g', q2, q3⟩, q4, q5⟩
  refine ⟨z, p1, ?_, g', s, n, q2, jn_c (jn_r0 hj q3 (by decide) (by decide) (by decide)) p2⟩
  rw [q1]
  congr 2
  by_cases hv' : (0 ≤ k ∧ k < 2 * mt_rd s) ∧ 0 ≤ c ∧ c ≤ 9
  · have a1 := gr_concg (s := s) hn e1 k (u % n) (v % n)
    have a3 := gr_chg (col := g 1) (u := u % n) (v := v % n) hB.1 hn hv'.1
    rcases Classical.em (mt_con (g 1) s n k (u % n) (v % n)) with h6 | h6
    · obtain ⟨im, i1, i2⟩ := (p4 hv').2 (a1.mpr h6)
      obtain ⟨im', j1, j2⟩ := (q5 hv').2 (a3.mpr h6)
      rw [i2, j2]
      exact (mt_img_u (gr_imgcg hn e1 i1) j1 c.toNat (by omega)).symm
    · rw [(p4 hv').1 (fun q => h6 (a1.mp q)), (q5 hv').1 (fun q => h6 (a3.mp q))]
  · rw [p3 hv', q4 hv']
theorem jw_strip (hj : jn h g s n) (y : Int) (hy : pg_inR y) (w : Int) (hw : pg_inR w) : jw pm_P_strip pm_T_strip [.inr (.inr 0), .inl y, .inl w] h (rm g s n) := by
  obtain ⟨hI, ⟨hB, hC, hG, hK, hJ⟩, e1, e2, e3⟩ := id hj
  have hn := hB.2.1
  refine ⟨_, _, ct_strip hI y hy w hw, re_strip hB hC y hy w hw, ?_⟩
  rintro r1 h1 r2 h2 ⟨p1, p2, p3⟩ ⟨q1, q2, q3⟩
  have hst : ∀ tb bk u : Int, mt_st (h 7) n (y % n) w tb bk u ↔ mt_st (g 1) n (y % n) w tb bk u := by
    intro tb bk u
    have e : ∀ a b : Int, h 7 (mt_pt n (a % n) (b % n)).toNat = g 1 (mt_pt n (a % n) (b % n)).toNat := fun a b => by
      have := mt_pt_bd hn.1 hn.2 (mt_mod hn.1 a) (mt_mod hn.1 b)
      exact e1 _ (by omega)
    unfold mt_st
    simp only [e]
  by_cases hv' : s = 0 ∧ 1 ≤ w ∧ w ≤ n
  · refine ⟨_, p3 hv', ?_, g, s, n, q1, jn_c hj p1⟩
    have hsx : ∀ tb bk : Int, mt_sx (h 7) n (y % n) w tb bk = mt_sx (g 1) n (y % n) w tb bk := by
      intro tb bk
      unfold mt_sx
      simp only [hst]
    rw [q3 hv', hsx, hsx, hsx, propext (hst 1 0 0)]
  · exact ⟨_, p2 hv', q2 hv', g, s, n, q1, jn_c hj p1⟩
theorem jw_generate (hj : jn h g s n) (k : Int) (hk : pg_inR k) (u : Int) (hu : pg_inR u) (v : Int) (hv : pg_inR v) : jw pm_P_generate pm_T_generate [.inr (.inr 0), .inl k, .inl u, .inl v] h (rm g s n) := by
  obtain ⟨hI, ⟨hB, hC, hG, hK, hJ⟩, e1, e2, e3⟩ := id hj
  have hn := hB.2.1
  refine ⟨_, _, ct_generate hI k hk u hu v hv, re_generate hB hG k hk u hu v hv, ?_⟩
  rintro r1 h1 r2 h2 (⟨p1, p2, p3⟩ | ⟨p1, p2, p3, p4⟩ | ⟨p1, p2, p3, p4, p5⟩) (⟨q1, q2, q3⟩ | ⟨q1, q2, q3, q4⟩ | ⟨q1, q2, q3, g', q4, q5, q6, q7, q8, q9, q10⟩)
  · exact ⟨_, p2, q2, by rw [q3]; exact jn_same hj p3⟩
  · exact absurd q1 p1
  · exact absurd q1 p1
  · exact absurd p1 q1
  · exact ⟨_, p3, q3, by rw [q4]; exact jn_same hj p4⟩
  · omega
  · exact absurd p1 q1
  · omega
  · have hg3 := hG.1
    rw [e2] at p3
    have mu := mt_mod hn.1 u
    have mv := mt_mod hn.1 v
    refine ⟨_, p3, q3, g', s, n, q4, p5, ⟨rm_B_fr hB q5 (by decide), ri_C_fr hC q5 (by decide), ⟨by omega, fun j hjj => ?_⟩, ri_K_fr hK q5 (by decide), ?_⟩, fun p hp => ?_, ?_, fun j hjj => ?_⟩
    · rcases (show (j : Int) < g 0 3 ∨ (j : Int) = g 0 3 by omega) with h5 | h5
      · rw [q10 (3 * j) (by omega), q10 (3 * j + 1) (by omega), q10 (3 * j + 2) (by omega)]
        exact hG.2 j h5
      · rw [show 3 * j = (3 * g 0 3).toNat by omega, show (3 * g 0 3).toNat + 1 = (3 * g 0 3 + 1).toNat by omega, show (3 * g 0 3).toNat + 2 = (3 * g 0 3 + 2).toNat by omega, q7, q8, q9]
        exact ⟨p1, mu, mv⟩
    · exact ri_J_fr hJ q5 (ri_K_fr hK q5 (by decide)) (fun h7 => by rw [q5.2 7 (by decide)]; exact h7) (by decide)
    · rw [p4, q5.1 1 (by decide) (by decide)]
      exact e1 p hp
    · rw [p4, q6]
      show h 20 4 + 1 = _
      rw [e2]
    · rw [p4]
      show pg_up h 21 (h 20 4).toNat (mt_cd n k u v) 21 j = _
      rw [pg_up_at, e2]
      rcases (show (j : Int) < g 0 3 ∨ (j : Int) = g 0 3 by omega) with h5 | h5
      · rw [if_neg (by omega), q10 (3 * j) (by omega), q10 (3 * j + 1) (by omega), q10 (3 * j + 2) (by omega)]
        exact e3 j h5
      · rw [if_pos (by omega), show 3 * j = (3 * g 0 3).toNat by omega, show (3 * g 0 3).toNat + 1 = (3 * g 0 3 + 1).toNat by omega, show (3 * g 0 3).toNat + 2 = (3 * g 0 3 + 2).toNat by omega, q7, q8, q9]
        unfold mt_cd
        rw [Int.emod_emod, Int.emod_emod]
end
