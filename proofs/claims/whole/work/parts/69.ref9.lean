/-! the reference: what places tell -/
noncomputable def mt_tu (col : Nat → Int) (s n : Int) (i : Nat) : Int := pg_cn (mt_ft col s n i) (2 * mt_rd s * (n * n)).toNat
noncomputable def mt_mi (col : Nat → Int) (s n : Int) (i : Nat) : Int := pg_cn (mt_fm col s n i) (2 * mt_rd s * (n * n)).toNat
def mt_rp (col : Nat → Int) (s n : Int) (i : Nat) : Prop := (ri_cl (mt_pR col s n) i).1 i < 0
theorem ri_cl_cn (R : Nat → Nat → Prop) (i : Nat) : (ri_cl R i).2 = pg_cn (fun j => (ri_cl R j).1 j < 0) i := by
  induction i with
  | zero => rfl
  | succ i ih =>
    simp only [pg_cn]
    rcases Classical.em ((ri_cl R i).1 i < 0) with h | h
    · rw [pg_b_t h, ri_cl_t h, ← ih]
    · rw [pg_b_f h, ri_cl_f h, ← ih, Int.add_zero]
theorem ri_P_b {g : pg_H} {s n : Int} (hs : s = 0 ∨ s = 1) (hn : 1 ≤ n ∧ n ≤ 12) (hP : ri_P g s n) {i : Nat} (hi : (i : Int) < 6 * n * (6 * n)) : (0 ≤ g 4 i ∧ g 4 i ≤ 1728) ∧ (0 ≤ g 5 i ∧ g 5 i ≤ 1728) ∧ (0 ≤ g 6 i ∧ g 6 i < 4096) ∧ (-1 ≤ g 7 i ∧ g 7 i < 5184) ∧ g 4 i = mt_tu (g 1) s n i ∧ g 5 i = mt_mi (g 1) s n i ∧ ri_mk (g 6 i) (mt_fk (g 1) s n i) := by
  obtain ⟨h1, h2, h3, h4⟩ := hP.1 i hi
  have hN := mt_2rn hs hn
  have h66 := mt_66 hn.1 hn.2
  have a := pg_cn_bd (mt_ft (g 1) s n i) (2 * mt_rd s * (n * n)).toNat
  have b := pg_cn_bd (mt_fm (g 1) s n i) (2 * mt_rd s * (n * n)).toNat
  have c := (ri_cl_bd (mt_pR (g 1) s n) (6 * n * (6 * n)).toNat).2 i
  have d := ri_mk_b h3
  exact ⟨by omega, by omega, d, by omega, h1, h2, h3⟩
theorem ri_P_c {g : pg_H} {s n : Int} (hn : 1 ≤ n ∧ n ≤ 12) (hP : ri_P g s n) : g 0 13 = pg_cn (mt_rp (g 1) s n) (6 * n * (6 * n)).toNat ∧ 0 ≤ g 0 13 ∧ g 0 13 ≤ 5184 := by
  have h66 := mt_66 hn.1 hn.2
  have h := hP.2.1
  have c := (ri_cl_bd (mt_pR (g 1) s n) (6 * n * (6 * n)).toNat).1
  refine ⟨?_, by omega, by omega⟩
  rw [h]
  exact ri_cl_cn _ _
theorem ri_P_l {g : pg_H} {s n : Int} (hP : ri_P g s n) : ∀ m : Nat, m < (6 * n * (6 * n)).toNat → mt_rp (g 1) s n m → g 8 (pg_cn (mt_rp (g 1) s n) m).toNat = m := by
  intro m h1 h2
  have h3 := hP.2.2 m (by omega) h2
  rw [ri_cl_cn] at h3
  exact h3
theorem ri_P_g {g : pg_H} {s n : Int} (hn : 1 ≤ n ∧ n ≤ 12) (hP : ri_P g s n) {c : Int} (hc : 0 ≤ c ∧ c < g 0 13) : ∃ j : Nat, (j : Int) < 6 * n * (6 * n) ∧ mt_rp (g 1) s n j ∧ pg_cn (mt_rp (g 1) s n) j = c ∧ g 8 c.toNat = j := by
  obtain ⟨h1, h2, h3⟩ := ri_P_c hn hP
  obtain ⟨j, a1, a2, a3⟩ := pg_cn_ex (P := mt_rp (g 1) s n) (m := (6 * n * (6 * n)).toNat) hc.1 (by omega)
  refine ⟨j, by omega, a2, a3, ?_⟩
  rw [← a3]
  exact ri_P_l hP j a1 a2
/-- classes of places with r turns, with mirrors or without -/
noncomputable def mt_cc (col : Nat → Int) (s n r w : Int) : Int := pg_cn (fun i => mt_rp col s n i ∧ (mt_tu col s n i = r ∧ (0 < mt_mi col s n i ↔ w = 1))) (6 * n * (6 * n)).toNat
theorem mt_cc_li {g : pg_H} {s n r w : Int} (hs : s = 0 ∨ s = 1) (hn : 1 ≤ n ∧ n ≤ 12) (hP : ri_P g s n) : pg_cn (fun b => g 4 (g 8 b).toNat = r ∧ (0 < g 5 (g 8 b).toNat ↔ w = 1)) (g 0 13).toNat = mt_cc (g 1) s n r w := by
  have h := pg_cn_li (Q := fun i => mt_tu (g 1) s n i = r ∧ (0 < mt_mi (g 1) s n i ↔ w = 1)) (ri_P_l hP)
  have hc := ri_P_c hn hP
  unfold mt_cc
  rw [← h, ← hc.1]
  refine pg_cn_iff (fun b hb => ?_)
  obtain ⟨j, a1, a2, a3, a4⟩ := ri_P_g hn hP (c := (b : Int)) (by omega)
  rw [Int.toNat_natCast] at a4
  have h3 := ri_P_b hs hn hP a1
  rw [a4, Int.toNat_natCast, h3.2.2.2.2.1, h3.2.2.2.2.2.1]
/-- a symmetry that turns over -/
def mt_od (col : Nat → Int) (s n : Int) : Prop := ∃ m : Nat, m < (2 * mt_rd s * (n * n)).toNat ∧ mt_sm col s n m ∧ mt_rd s ≤ (m : Int) / (n * n)
noncomputable def mt_mx (col : Nat → Int) (s n : Int) : Nat → Int
  | 0 => 0
  | i + 1 => if mt_mx col s n i < mt_tu col s n i then mt_tu col s n i else mt_mx col s n i
theorem mt_tu_bd {s n : Int} (hs : s = 0 ∨ s = 1) (hn : 1 ≤ n ∧ n ≤ 12) (col : Nat → Int) (i : Nat) : 0 ≤ mt_tu col s n i ∧ mt_tu col s n i ≤ 1728 := by
  have hN := mt_2rn hs hn
  have a := pg_cn_bd (mt_ft col s n i) (2 * mt_rd s * (n * n)).toNat
  unfold mt_tu
  omega
theorem mt_mx_bd {s n : Int} (hs : s = 0 ∨ s = 1) (hn : 1 ≤ n ∧ n ≤ 12) (col : Nat → Int) (i : Nat) : 0 ≤ mt_mx col s n i ∧ mt_mx col s n i ≤ 1728 := by
  induction i with
  | zero => exact ⟨Int.le_refl _, by show (0 : Int) ≤ 1728; decide⟩
  | succ i ih =>
    have := mt_tu_bd hs hn col i
    simp only [mt_mx]
    split <;> omega
def mt_hp (col : Nat → Int) (s n r w : Int) (m : Nat) : Prop := ∃ i : Nat, i < m ∧ mt_tu col s n i = r ∧ (0 < mt_mi col s n i ↔ w = 1)
def mt_hm (col : Nat → Int) (s n : Int) (m : Nat) : Prop := ∃ i : Nat, i < m ∧ 0 < mt_mi col s n i
theorem mt_hp_s {col : Nat → Int} {s n r w : Int} {m : Nat} : mt_hp col s n r w (m + 1) ↔ mt_hp col s n r w m ∨ (mt_tu col s n m = r ∧ (0 < mt_mi col s n m ↔ w = 1)) := by
  constructor
  · rintro ⟨i, h1, h2⟩
    rcases (show i < m ∨ i = m by omega) with h | rfl
    · exact Or.inl ⟨i, h, h2⟩
    · exact Or.inr h2
  · rintro (⟨i, h1, h2⟩ | h)
    · exact ⟨i, by omega, h2⟩
    · exact ⟨m, by omega, h⟩
theorem mt_hm_s {col : Nat → Int} {s n : Int} {m : Nat} : mt_hm col s n (m + 1) ↔ mt_hm col s n m ∨ 0 < mt_mi col s n m := by
  constructor
  · rintro ⟨i, h1, h2⟩
    rcases (show i < m ∨ i = m by omega) with h | rfl
    · exact Or.inl ⟨i, h, h2⟩
    · exact Or.inr h2
  · rintro (⟨i, h1, h2⟩ | h)
    · exact ⟨i, by omega, h2⟩
    · exact ⟨m, by omega, h⟩
/-- a place on the middle line of move m's glide or mirror that it doesn't fix -/
def mt_gl (col : Nat → Int) (s n M w : Int) : Prop := ¬ mt_fk col s n (6 * n * (3 * (M % n + n * (w / 2)) % (6 * n)) + 3 * (M / n % n + n * (w % 2)) % (6 * n)).toNat (M / (n * n)).toNat
def mt_gw (col : Nat → Int) (s n M w : Int) : Prop := mt_rd s ≤ M / (n * n) ∧ ∃ v : Int, (0 ≤ v ∧ v < w) ∧ mt_gl col s n M v
def mt_hg (col : Nat → Int) (s n : Int) : Prop := ∃ m : Nat, m < (2 * mt_rd s * (n * n)).toNat ∧ mt_sm col s n m ∧ mt_gw col s n m 4
theorem mt_nw {n w : Int} (hn : 1 ≤ n ∧ n ≤ 12) (hw : 0 ≤ w ∧ w < 4) : (0 ≤ n * Int.tmod w 2 ∧ n * Int.tmod w 2 ≤ 12) ∧ (0 ≤ n * Int.tdiv w 2 ∧ n * Int.tdiv w 2 ≤ 12) := by
  rw [pg_tmod_nn hw.1, pg_tdiv_nn hw.1]
  rcases (show w = 0 ∨ w = 1 ∨ w = 2 ∨ w = 3 by omega) with rfl | rfl | rfl | rfl
  · show (0 ≤ n * 0 ∧ n * 0 ≤ 12) ∧ (0 ≤ n * 0 ∧ n * 0 ≤ 12); omega
  · show (0 ≤ n * 1 ∧ n * 1 ≤ 12) ∧ (0 ≤ n * 0 ∧ n * 0 ≤ 12); omega
  · show (0 ≤ n * 0 ∧ n * 0 ≤ 12) ∧ (0 ≤ n * 1 ∧ n * 1 ≤ 12); omega
  · show (0 ≤ n * 1 ∧ n * 1 ≤ 12) ∧ (0 ≤ n * 1 ∧ n * 1 ≤ 12); omega
theorem mt_gw_s {col : Nat → Int} {s n M w : Int} (hw : 0 ≤ w) : mt_gw col s n M (w + 1) ↔ mt_gw col s n M w ∨ (mt_rd s ≤ M / (n * n) ∧ mt_gl col s n M w) := by
  constructor
  · rintro ⟨h0, v, h1, h2⟩
    rcases (show v < w ∨ v = w by omega) with h | rfl
    · exact Or.inl ⟨h0, v, by omega, h2⟩
    · exact Or.inr ⟨h0, h2⟩
  · rintro (⟨h0, v, h1, h2⟩ | h)
    · exact ⟨h0, v, by omega, h2⟩
    · exact ⟨h.1, w, by omega, h.2⟩
/-- mirrors of direction k -/
def mt_mk (col : Nat → Int) (s n : Int) (k m : Nat) : Prop := ∃ i : Nat, i < m ∧ 0 < mt_mi col s n i ∧ mt_fk col s n i k
theorem mt_mk_s {col : Nat → Int} {s n : Int} {k m : Nat} : mt_mk col s n k (m + 1) ↔ mt_mk col s n k m ∨ (0 < mt_mi col s n m ∧ mt_fk col s n m k) := by
  constructor
  · rintro ⟨i, h1, h2⟩
    rcases (show i < m ∨ i = m by omega) with h | rfl
    · exact Or.inl ⟨i, h, h2⟩
    · exact Or.inr h2
  · rintro (⟨i, h1, h2⟩ | h)
    · exact ⟨i, by omega, h2⟩
    · exact ⟨m, by omega, h⟩
theorem mt_sm_0 (col : Nat → Int) (s n : Int) : mt_sm col s n 0 := by
  unfold mt_sm
  have h : ((0 : Nat) : Int) = 0 := rfl
  rw [h, Int.zero_ediv, Int.zero_ediv, Int.zero_emod]
  exact mt_sym_id _ _ _
set_option maxRecDepth 20000 in
set_option maxHeartbeats 4000000 in
theorem re_place {g : pg_H} {s n : Int} (hB : rm_B g s n) (hC : ri_C g) (hK : ri_K g s n) (hJ : ri_J g s n) (p : Int) (hp : pg_inR p) (q : Int) (hq : pg_inR q) (w : Int) (hw : pg_inR w) : pg_Sem false pm_T_place [.inr (.inr 0), .inl p, .inl q, .inl w] (rm g s n) (fun r h' => ∃ (g' : pg_H) (z : Int), h' = rm g' s n ∧ rf [3, 4, 5, 6, 7, 8] [6, 7, 8, 13, 15, 16] g g' ∧ ri_K g' s n ∧ ri_J g' s n ∧ r = some (.inl z) ∧ (¬ (0 ≤ w ∧ w ≤ 1) → z = -2) ∧ (0 ≤ w ∧ w ≤ 1 → z = if w = 0 then mt_tu (g 1) s n (6 * n * (q % (6 * n)) + p % (6 * n)).toNat else mt_mi (g 1) s n (6 * n * (q % (6 * n)) + p % (6 * n)).toNat)) := by
  obtain ⟨hs, hn, hT⟩ := id hB
  obtain ⟨hn1, hn2⟩ := id hn
  have hr := mt_rd_or hs
  obtain ⟨p1, p2⟩ := hp
  obtain ⟨q1, q2⟩ := hq
  obtain ⟨w1, w2⟩ := hw
  have m6p := mt_mod (n := 6 * n) (by omega) p
  have m6q := mt_mod (n := 6 * n) (by omega) q
  have h6q := mt_6q hn1 hn2 m6q
  have hpb : 0 ≤ (6 * n * (q % (6 * n)) + p % (6 * n)) ∧ (6 * n * (q % (6 * n)) + p % (6 * n)) < 6 * n * (6 * n) := by
    have c := Int.mul_le_mul_of_nonneg_left (show q % (6 * n) ≤ 6 * n - 1 by omega) (show 0 ≤ 6 * n by omega)
    rw [Int.mul_sub] at c
    omega
  have h66 := mt_66 hn1 hn2
  refine pg_Sem_of pm_T_place_f rfl ?_
  refine pg_ca 4 (L := [pg_inR w]) (Mc := pm_T_isIn) (as := [.inr (.inl w), .inr (.inl 0), .inr (.inl 1)]) (h0 := rm g s n) (pc := 7) (lv := [(0, .inr (.inr 0)), (1, .inl p), (2, .inl q), (3, .inl w)]) (rest := []) rfl ⟨by omega, by omega⟩ (re_isIn (rm g s n) w 0 1 ⟨by omega, by omega⟩ ⟨by omega, by omega⟩ ⟨by omega, by omega⟩) ?_
  intro r_1 h_1 e_1; rw [e_1.1, e_1.2]
  have hin_4 : ((if 0 ≤ w ∧ w ≤ 1 then (1 : Int) else 0) = 1 ∧ (0 ≤ w ∧ w ≤ 1)) ∨ ((if 0 ≤ w ∧ w ≤ 1 then (1 : Int) else 0) = 0 ∧ ¬ (0 ≤ w ∧ w ≤ 1)) := by split <;> simp_all
  refine pg_br 0 (L := []) (P := pg_inR (if 0 ≤ w ∧ w ≤ 1 then 1 else 0)) (c := ¬ (if 0 ≤ w ∧ w ≤ 1 then 1 else 0) = 0) (st1 := (13, [(0, .inr (.inr 0)), (1, .inl p), (2, .inl q), (3, .inl w)], [], rm g s n)) (st2 := (10, [(0, .inr (.inr 0)), (1, .inl p), (2, .inl q), (3, .inl w)], [], rm g s n)) rfl trivial ⟨by omega, by omega⟩ (fun c_7_1 => ?_) (fun c_7_1 => ?_)
  · refine pg_ca 1 (L := []) (Mc := pm_T_findPlaces) (as := [.inr (.inr 0)]) (h0 := rm g s n) (pc := 17) (lv := [(0, .inr (.inr 0)), (1, .inl p), (2, .inl q), (3, .inl w)]) (rest := []) rfl trivial (re_findPlaces (g := g) hB hC hK hJ) ?_
    intro r_1 h_1 e_1; obtain ⟨er_, g22, eh_, ef22, e822, e722, hS22, hP22⟩ := e_1; rw [er_, eh_]; have hB22 := rm_B_fr hB ef22 (by decide); have hC22 := ri_C_fr hC ef22 (by decide)
    have e1_22 : g22 1 = g 1 := ef22.1 1 (by decide) (by decide)
    refine pg_ca 1 (L := []) (Mc := pm_T_side) (as := [.inr (.inr 0)]) (h0 := rm g22 s n) (pc := 21) (lv := [(0, .inr (.inr 0)), (1, .inl p), (2, .inl q), (3, .inl w)]) (rest := []) rfl trivial (re_side (g := g22) (s := s) hn) ?_
    intro r_1 h_1 e_1; rw [e_1.1, e_1.2]
    refine pg_ca 3 (L := [pg_inR q]) (Mc := pm_T_side) (as := [.inr (.inr 0)]) (h0 := rm g22 s n) (pc := 27) (lv := [(0, .inr (.inr 0)), (1, .inl p), (2, .inl q), (3, .inl w)]) (rest := [.inr (.inl q), .inl (6 * n)]) rfl ⟨by omega, by omega⟩ (re_side (g := g22) (s := s) hn) ?_
    intro r_1 h_1 e_1; rw [e_1.1, e_1.2]
    refine pg_ca 0 (L := []) (Mc := pm_T_mod) (as := [.inr (.inl q), .inl (6 * n)]) (h0 := rm g22 s n) (pc := 30) (lv := [(0, .inr (.inr 0)), (1, .inl p), (2, .inl q), (3, .inl w)]) (rest := [.inl (6 * n)]) rfl trivial (re_mod (rm g22 s n) q (6 * n) ⟨by omega, by omega⟩ ⟨by omega, by omega⟩) ?_
    intro r_1 h_1 e_1; rw [e_1.1, e_1.2]
    have hm_27 := mt_mod (n := (6 * n)) (by omega) q
    refine pg_ca 4 (L := [pg_inR p]) (Mc := pm_T_side) (as := [.inr (.inr 0)]) (h0 := rm g22 s n) (pc := 37) (lv := [(0, .inr (.inr 0)), (1, .inl p), (2, .inl q), (3, .inl w)]) (rest := [.inr (.inl p), .inl ((6 * n) * (q % (6 * n)))]) rfl ⟨by omega, by omega⟩ (re_side (g := g22) (s := s) hn) ?_
    intro r_1 h_1 e_1; rw [e_1.1, e_1.2]
    refine pg_ca 0 (L := []) (Mc := pm_T_mod) (as := [.inr (.inl p), .inl (6 * n)]) (h0 := rm g22 s n) (pc := 40) (lv := [(0, .inr (.inr 0)), (1, .inl p), (2, .inl q), (3, .inl w)]) (rest := [.inl ((6 * n) * (q % (6 * n)))]) rfl trivial (re_mod (rm g22 s n) p (6 * n) ⟨by omega, by omega⟩ ⟨by omega, by omega⟩) ?_
    intro r_1 h_1 e_1; rw [e_1.1, e_1.2]
    have hm_37 := mt_mod (n := (6 * n)) (by omega) p
    refine pg_br 3 (L := []) (P := pg_inR w) (c := ¬ w = 0) (st1 := (57, [(0, .inr (.inr 0)), (1, .inl p), (2, .inl q), (3, .inl w), (4, .inl (((6 * n) * (q % (6 * n))) + (p % (6 * n))))], [], rm g22 s n)) (st2 := (47, [(0, .inr (.inr 0)), (1, .inl p), (2, .inl q), (3, .inl w), (4, .inl (((6 * n) * (q % (6 * n))) + (p % (6 * n))))], [], rm g22 s n)) rfl trivial ⟨by omega, by omega⟩ (fun c_44_2 => ?_) (fun c_44_2 => ?_)
    · refine pg_re 4 (L := [0 ≤ (((6 * n) * (q % (6 * n))) + (p % (6 * n))) ∧ (((6 * n) * (q % (6 * n))) + (p % (6 * n))) < (5184 : Int)]) (r := some (.inl (g22 5 ((((6 * n) * (q % (6 * n))) + (p % (6 * n))).toNat)))) (h0 := rm g22 s n) rfl ⟨by omega, by omega⟩ ?_
      refine ⟨_, _, rfl, ef22, Or.inr ⟨e722, hS22⟩, Or.inr ⟨e822, e722, hS22, hP22⟩, rfl, fun hz => absurd (show 0 ≤ w ∧ w ≤ 1 by omega) hz, fun _ => ?_⟩
      have hb := ri_P_b hs hn hP22 (i := (6 * n * (q % (6 * n)) + p % (6 * n)).toNat) (by omega)
      first | (rw [if_pos (by omega), hb.2.2.2.2.1, e1_22]; done) | (rw [if_neg (by omega), hb.2.2.2.2.2.1, e1_22])
    · refine pg_re 5 (L := [0 ≤ (((6 * n) * (q % (6 * n))) + (p % (6 * n))) ∧ (((6 * n) * (q % (6 * n))) + (p % (6 * n))) < (5184 : Int)]) (r := some (.inl (g22 4 ((((6 * n) * (q % (6 * n))) + (p % (6 * n))).toNat)))) (h0 := rm g22 s n) rfl ⟨by omega, by omega⟩ ?_
      refine ⟨_, _, rfl, ef22, Or.inr ⟨e722, hS22⟩, Or.inr ⟨e822, e722, hS22, hP22⟩, rfl, fun hz => absurd (show 0 ≤ w ∧ w ≤ 1 by omega) hz, fun _ => ?_⟩
      have hb := ri_P_b hs hn hP22 (i := (6 * n * (q % (6 * n)) + p % (6 * n)).toNat) (by omega)
      first | (rw [if_pos (by omega), hb.2.2.2.2.1, e1_22]; done) | (rw [if_neg (by omega), hb.2.2.2.2.2.1, e1_22])
  · refine pg_re 1 (L := []) (r := some (.inl (-2))) (h0 := rm g s n) rfl trivial ?_
    exact ⟨g, -2, rfl, rf_rf _ _ _, hK, hJ, rfl, fun _ => rfl, fun hz => absurd hz (by omega)⟩
set_option maxRecDepth 20000 in
set_option maxHeartbeats 4000000 in
theorem re_cc_l {g : pg_H} {s n : Int} (hB : rm_B g s n) (hS : ri_S g s n) (hP : ri_P g s n) {t w : Int} (ht : pg_inR t) (hw : w = 0 ∨ w = 1) : ∀ (d : Nat) (f c : Int) (hd : c + (d : Int) = g 0 13) (hc : 0 ≤ c) (hF : f = pg_cn (fun b => g 4 (g 8 b).toNat = t ∧ (0 < g 5 (g 8 b).toNat ↔ w = 1)) c.toNat), pg_Good false pm_T_countClasses (fun r h' => r = some (.inl (mt_cc (g 1) s n t w)) ∧ h' = rm g s n) (5, [(0, .inr (.inr 0)), (1, .inl t), (2, .inl w), (3, .inl f), (4, .inl c)], [], rm g s n) := by
  intro d
  induction d with
  | zero =>
    intro f c hd hc hF
    obtain ⟨hs, hn, hT⟩ := id hB
    obtain ⟨hn1, hn2⟩ := id hn
    have hr := mt_rd_or hs
    have h66 := mt_66 hn1 hn2
    have hN := mt_2rn hs hn
    obtain ⟨hc1, hc2, hc3⟩ := ri_P_c hn hP
    obtain ⟨t1, t2⟩ := ht
    refine pg_br 3 (L := []) (P := pg_inR c ∧ pg_inR (g 0 13)) (c := (g 0 13) ≤ c) (st1 := (68, [(0, .inr (.inr 0)), (1, .inl t), (2, .inl w), (3, .inl f), (4, .inl c)], [], rm g s n)) (st2 := (14, [(0, .inr (.inr 0)), (1, .inl t), (2, .inl w), (3, .inl f), (4, .inl c)], [], rm g s n)) rfl trivial ⟨⟨by omega, by omega⟩, ⟨by omega, by omega⟩⟩ (fun c_11_1 => ?_) (fun c_11_1 => ?_)
    · refine pg_re 1 (L := []) (r := some (.inl f)) (h0 := rm g s n) rfl trivial ?_
      refine ⟨?_, rfl⟩
      rw [← mt_cc_li hs hn hP, hF, show g 0 13 = c by omega]
    · exact (by exfalso; omega)
  | succ d ih =>
    intro f c hd hc hF
    obtain ⟨hs, hn, hT⟩ := id hB
    obtain ⟨hn1, hn2⟩ := id hn
    have hr := mt_rd_or hs
    have h66 := mt_66 hn1 hn2
    have hN := mt_2rn hs hn
    obtain ⟨hc1, hc2, hc3⟩ := ri_P_c hn hP
    obtain ⟨t1, t2⟩ := ht
    obtain ⟨j, j1, j2, j3, j4⟩ := ri_P_g hn hP (c := c) (by omega)
    have hb := ri_P_b hs hn hP j1
    have ej : (g 8 c.toNat).toNat = j := by omega
    have ek : (c + 1).toNat = c.toNat + 1 := by omega
    have hfb := pg_cn_bd (fun b => g 4 (g 8 b).toNat = t ∧ (0 < g 5 (g 8 b).toNat ↔ w = 1)) c.toNat
    rw [← ej] at hb
    obtain ⟨hb4, hb5, -⟩ := hb
    refine pg_br 3 (L := []) (P := pg_inR c ∧ pg_inR (g 0 13)) (c := (g 0 13) ≤ c) (st1 := (68, [(0, .inr (.inr 0)), (1, .inl t), (2, .inl w), (3, .inl f), (4, .inl c)], [], rm g s n)) (st2 := (14, [(0, .inr (.inr 0)), (1, .inl t), (2, .inl w), (3, .inl f), (4, .inl c)], [], rm g s n)) rfl trivial ⟨⟨by omega, by omega⟩, ⟨by omega, by omega⟩⟩ (fun c_11_2 => ?_) (fun c_11_2 => ?_)
    · exact (by exfalso; omega)
    · refine pg_br 8 (L := [0 ≤ c ∧ c < (5184 : Int), 0 ≤ (g 8 c.toNat) ∧ (g 8 c.toNat) < (5184 : Int)]) (P := pg_inR (g 4 ((g 8 c.toNat).toNat)) ∧ pg_inR t) (c := ¬ (g 4 ((g 8 c.toNat).toNat)) = t) (st1 := (60, [(0, .inr (.inr 0)), (1, .inl t), (2, .inl w), (3, .inl f), (4, .inl c)], [], rm g s n)) (st2 := (30, [(0, .inr (.inr 0)), (1, .inl t), (2, .inl w), (3, .inl f), (4, .inl c)], [], rm g s n)) rfl ⟨⟨by omega, by omega⟩, ⟨by omega, by omega⟩⟩ ⟨⟨by omega, by omega⟩, ⟨by omega, by omega⟩⟩ (fun c_27_3 => ?_) (fun c_27_3 => ?_)
      · refine pg_go 4 (L := []) (st' := (5, [(0, .inr (.inr 0)), (1, .inl t), (2, .inl w), (3, .inl f), (4, .inl (c + 1))], [], rm g s n)) rfl trivial ?_
        refine ih _ _ (by omega) (by omega) ?_
        rw [ek]
        simp only [pg_cn]
        rw [pg_b_f (by omega : ¬ (g 4 (g 8 c.toNat).toNat = t ∧ (0 < g 5 (g 8 c.toNat).toNat ↔ w = 1))), hF, Int.add_zero]
      · refine pg_br 7 (L := [0 ≤ c ∧ c < (5184 : Int), 0 ≤ (g 8 c.toNat) ∧ (g 8 c.toNat) < (5184 : Int)]) (P := pg_inR (g 5 ((g 8 c.toNat).toNat))) (c := (g 5 ((g 8 c.toNat).toNat)) ≤ 0) (st1 := (49, [(0, .inr (.inr 0)), (1, .inl t), (2, .inl w), (3, .inl f), (4, .inl c)], [], rm g s n)) (st2 := (45, [(0, .inr (.inr 0)), (1, .inl t), (2, .inl w), (3, .inl f), (4, .inl c)], [], rm g s n)) rfl ⟨⟨by omega, by omega⟩, ⟨by omega, by omega⟩⟩ ⟨by omega, by omega⟩ (fun c_42_4 => ?_) (fun c_42_4 => ?_)
        · refine pg_br 2 (L := []) (P := pg_inR 0 ∧ pg_inR w) (c := ¬ 0 = w) (st1 := (60, [(0, .inr (.inr 0)), (1, .inl t), (2, .inl w), (3, .inl f), (4, .inl c)], [], rm g s n)) (st2 := (54, [(0, .inr (.inr 0)), (1, .inl t), (2, .inl w), (3, .inl f), (4, .inl c)], [], rm g s n)) rfl trivial ⟨⟨by decide, by decide⟩, ⟨by omega, by omega⟩⟩ (fun c_51_5 => ?_) (fun c_51_5 => ?_)
          · refine pg_go 4 (L := []) (st' := (5, [(0, .inr (.inr 0)), (1, .inl t), (2, .inl w), (3, .inl f), (4, .inl (c + 1))], [], rm g s n)) rfl trivial ?_
            refine ih _ _ (by omega) (by omega) ?_
            rw [ek]
            simp only [pg_cn]
            rw [pg_b_f (by omega : ¬ (g 4 (g 8 c.toNat).toNat = t ∧ (0 < g 5 (g 8 c.toNat).toNat ↔ w = 1))), hF, Int.add_zero]
          · refine pg_go 7 (L := []) (st' := (5, [(0, .inr (.inr 0)), (1, .inl t), (2, .inl w), (3, .inl (f + 1)), (4, .inl (c + 1))], [], rm g s n)) rfl trivial ?_
            refine ih _ _ (by omega) (by omega) ?_
            rw [ek]
            simp only [pg_cn]
            rw [pg_b_t (⟨by omega, by omega⟩ : g 4 (g 8 c.toNat).toNat = t ∧ (0 < g 5 (g 8 c.toNat).toNat ↔ w = 1)), hF]
        · refine pg_br 3 (L := []) (P := pg_inR 1 ∧ pg_inR w) (c := ¬ 1 = w) (st1 := (60, [(0, .inr (.inr 0)), (1, .inl t), (2, .inl w), (3, .inl f), (4, .inl c)], [], rm g s n)) (st2 := (54, [(0, .inr (.inr 0)), (1, .inl t), (2, .inl w), (3, .inl f), (4, .inl c)], [], rm g s n)) rfl trivial ⟨⟨by decide, by decide⟩, ⟨by omega, by omega⟩⟩ (fun c_51_6 => ?_) (fun c_51_6 => ?_)
          · refine pg_go 4 (L := []) (st' := (5, [(0, .inr (.inr 0)), (1, .inl t), (2, .inl w), (3, .inl f), (4, .inl (c + 1))], [], rm g s n)) rfl trivial ?_
            refine ih _ _ (by omega) (by omega) ?_
            rw [ek]
            simp only [pg_cn]
            rw [pg_b_f (by omega : ¬ (g 4 (g 8 c.toNat).toNat = t ∧ (0 < g 5 (g 8 c.toNat).toNat ↔ w = 1))), hF, Int.add_zero]
          · refine pg_go 7 (L := []) (st' := (5, [(0, .inr (.inr 0)), (1, .inl t), (2, .inl w), (3, .inl (f + 1)), (4, .inl (c + 1))], [], rm g s n)) rfl trivial ?_
            refine ih _ _ (by omega) (by omega) ?_
            rw [ek]
            simp only [pg_cn]
            rw [pg_b_t (⟨by omega, by omega⟩ : g 4 (g 8 c.toNat).toNat = t ∧ (0 < g 5 (g 8 c.toNat).toNat ↔ w = 1)), hF]
theorem re_countClasses {g : pg_H} {s n : Int} (hB : rm_B g s n) (hS : ri_S g s n) (hP : ri_P g s n) (t w : Int) (ht : pg_inR t) (hw : w = 0 ∨ w = 1) : pg_Sem false pm_T_countClasses [.inr (.inr 0), .inl t, .inl w] (rm g s n) (fun r h' => r = some (.inl (mt_cc (g 1) s n t w)) ∧ h' = rm g s n) := by
  obtain ⟨hs, hn, hT⟩ := id hB
  obtain ⟨hn1, hn2⟩ := id hn
  have hr := mt_rd_or hs
  have h66 := mt_66 hn1 hn2
  have hN := mt_2rn hs hn
  obtain ⟨hc1, hc2, hc3⟩ := ri_P_c hn hP
  refine pg_Sem_of pm_T_countClasses_f rfl ?_
  refine pg_go 4 (L := []) (st' := (5, [(0, .inr (.inr 0)), (1, .inl t), (2, .inl w), (3, .inl 0), (4, .inl 0)], [], rm g s n)) rfl trivial ?_
  exact re_cc_l hB hS hP ht hw (g 0 13).toNat 0 0 (by omega) (by omega) rfl
theorem re_hasOdd {g : pg_H} {s n : Int} (hB : rm_B g s n) (hS : ri_S g s n) (hP : ri_P g s n) : pg_Sem false pm_T_hasOdd [.inr (.inr 0)] (rm g s n) (fun r h' => r = some (.inl (pg_b (mt_od (g 1) s n))) ∧ h' = rm g s n) := by
  obtain ⟨hs, hn, hT⟩ := id hB
  obtain ⟨hn1, hn2⟩ := id hn
  have hr := mt_rd_or hs
  have h66 := mt_66 hn1 hn2
  have hN := mt_2rn hs hn
  have hcb := pg_cn_bd (mt_sm (g 1) s n) (2 * mt_rd s * (n * n)).toNat
  have h6 : g 0 6 = pg_cn (mt_sm (g 1) s n) (2 * mt_rd s * (n * n)).toNat := hS.1
  have hpos : 0 < pg_cn (mt_sm (g 1) s n) (2 * mt_rd s * (n * n)).toNat := pg_cn_pos.mpr ⟨0, by omega, mt_sm_0 _ _ _⟩
  obtain ⟨m, m1, m2, m3⟩ := pg_cn_ex (P := (mt_sm (g 1) s n)) (m := (2 * mt_rd s * (n * n)).toNat) (i := g 0 6 - 1) (by omega) (by omega)
  have hma : g 3 (g 0 6 - 1).toNat = (m : Int) := by rw [← m3]; exact hS.2 m (by omega) m2
  have hka := mt_kof hn1 (show 0 ≤ g 3 (g 0 6 - 1).toNat ∧ g 3 (g 0 6 - 1).toNat < 2 * mt_rd s * (n * n) by omega)
  have hiff : mt_od (g 1) s n ↔ mt_rd s ≤ g 3 (g 0 6 - 1).toNat / (n * n) := by
    constructor
    · rintro ⟨a, a1, a2, a3⟩
      have a4 := pg_cn_lt2 a1 a2
      rcases (show a ≤ m ∨ m < a by omega) with h | h
      · rw [hma]; exact Int.le_trans a3 (Int.ediv_le_ediv (by have := mt_nn hn1 hn2; omega) (by omega))
      · have a5 := pg_cn_lt2 h m2; omega
    · intro h; rw [hma] at h; exact ⟨m, m1, m2, h⟩
  refine pg_Sem_of pm_T_hasOdd_f rfl ?_
  refine pg_br 2 (L := []) (P := pg_inR (g 0 6)) (c := (g 0 6) ≤ 0) (st1 := (33, [(0, .inr (.inr 0))], [], rm g s n)) (st2 := (7, [(0, .inr (.inr 0))], [], rm g s n)) rfl trivial ⟨by omega, by omega⟩ (fun c_4_1 => ?_) (fun c_4_1 => ?_)
  · refine pg_re 1 (L := [0 = 0 ∨ 0 = 1]) (r := some (.inl 0)) (h0 := rm g s n) rfl (Or.inl rfl) ?_
    refine ⟨?_, rfl⟩
    first | (exfalso; omega) | rw [pg_b_f (fun h => by have := hiff.mp h; omega)]
  · refine pg_ca 8 (L := [0 ≤ ((g 0 6) - 1) ∧ ((g 0 6) - 1) < (1728 : Int)]) (Mc := pm_T_kOf) (as := [.inr (.inr 0), .inl (g 3 (((g 0 6) - 1).toNat))]) (h0 := rm g s n) (pc := 22) (lv := [(0, .inr (.inr 0))]) (rest := []) rfl ⟨by omega, by omega⟩ (re_kOf (g := g) (s := s) hn (g 3 (((g 0 6) - 1).toNat)) ⟨by omega, by omega⟩) ?_
    intro r_1 h_1 e_1; rw [e_1.1, e_1.2]
    refine pg_ca 1 (L := []) (Mc := pm_T_round) (as := [.inr (.inr 0)]) (h0 := rm g s n) (pc := 26) (lv := [(0, .inr (.inr 0))]) (rest := [.inl ((g 3 (((g 0 6) - 1).toNat)) / (n * n))]) rfl trivial (re_round (g := g) (n := n) hs) ?_
    intro r_1 h_1 e_1; rw [e_1.1, e_1.2]
    refine pg_br 0 (L := []) (P := pg_inR ((g 3 (((g 0 6) - 1).toNat)) / (n * n)) ∧ pg_inR (mt_rd s)) (c := ((g 3 (((g 0 6) - 1).toNat)) / (n * n)) < (mt_rd s)) (st1 := (33, [(0, .inr (.inr 0))], [], rm g s n)) (st2 := (29, [(0, .inr (.inr 0))], [], rm g s n)) rfl trivial ⟨⟨by omega, by omega⟩, ⟨by omega, by omega⟩⟩ (fun c_26_2 => ?_) (fun c_26_2 => ?_)
    · refine pg_re 1 (L := [0 = 0 ∨ 0 = 1]) (r := some (.inl 0)) (h0 := rm g s n) rfl (Or.inl rfl) ?_
      refine ⟨?_, rfl⟩
      first | (exfalso; omega) | rw [pg_b_f (fun h => by have := hiff.mp h; omega)]
    · refine pg_re 2 (L := [1 = 0 ∨ 1 = 1]) (r := some (.inl 1)) (h0 := rm g s n) rfl (Or.inr rfl) ?_
      refine ⟨?_, rfl⟩
      rw [pg_b_t (hiff.mpr (by omega))]
theorem re_mt_l {g : pg_H} {s n : Int} (hB : rm_B g s n) (hS : ri_S g s n) (hP : ri_P g s n) : ∀ (d : Nat) (b i : Int) (hd : i + (d : Int) = 6 * n * (6 * n)) (hi : 0 ≤ i) (hb : b = mt_mx (g 1) s n i.toNat), pg_Good false pm_T_mostTurns (fun r h' => r = some (.inl (mt_mx (g 1) s n (6 * n * (6 * n)).toNat)) ∧ h' = rm g s n) (4, [(0, .inr (.inr 0)), (1, .inl b), (2, .inl i)], [], rm g s n) := by
  intro d
  induction d with
  | zero =>
    intro b i hd hi hb
    obtain ⟨hs, hn, hT⟩ := id hB
    obtain ⟨hn1, hn2⟩ := id hn
    have hr := mt_rd_or hs
    have h66 := mt_66 hn1 hn2
    have hN := mt_2rn hs hn
    have hxb := mt_mx_bd hs hn (g 1) i.toNat
    refine pg_ca 2 (L := []) (Mc := pm_T_side) (as := [.inr (.inr 0)]) (h0 := rm g s n) (pc := 9) (lv := [(0, .inr (.inr 0)), (1, .inl b), (2, .inl i)]) (rest := [.inl i]) rfl trivial (re_side (g := g) (s := s) hn) ?_
    intro r_1 h_1 e_1; rw [e_1.1, e_1.2]
    refine pg_ca 1 (L := []) (Mc := pm_T_side) (as := [.inr (.inr 0)]) (h0 := rm g s n) (pc := 13) (lv := [(0, .inr (.inr 0)), (1, .inl b), (2, .inl i)]) (rest := [.inl (6 * n), .inl i]) rfl trivial (re_side (g := g) (s := s) hn) ?_
    intro r_1 h_1 e_1; rw [e_1.1, e_1.2]
    refine pg_br 1 (L := []) (P := pg_inR i ∧ pg_inR ((6 * n) * (6 * n))) (c := ((6 * n) * (6 * n)) ≤ i) (st1 := (44, [(0, .inr (.inr 0)), (1, .inl b), (2, .inl i)], [], rm g s n)) (st2 := (17, [(0, .inr (.inr 0)), (1, .inl b), (2, .inl i)], [], rm g s n)) rfl trivial ⟨⟨by omega, by omega⟩, ⟨by omega, by omega⟩⟩ (fun c_14_1 => ?_) (fun c_14_1 => ?_)
    · refine pg_re 1 (L := []) (r := some (.inl b)) (h0 := rm g s n) rfl trivial ?_
      refine ⟨?_, rfl⟩
      rw [hb, show 6 * n * (6 * n) = i by omega]
    · exact (by exfalso; omega)
  | succ d ih =>
    intro b i hd hi hb
    obtain ⟨hs, hn, hT⟩ := id hB
    obtain ⟨hn1, hn2⟩ := id hn
    have hr := mt_rd_or hs
    have h66 := mt_66 hn1 hn2
    have hN := mt_2rn hs hn
    have hxb := mt_mx_bd hs hn (g 1) i.toNat
    obtain ⟨p4, p5, -, -, q4, -⟩ := ri_P_b hs hn hP (i := i.toNat) (by omega)
    have ek : (i + 1).toNat = i.toNat + 1 := by omega
    refine pg_ca 2 (L := []) (Mc := pm_T_side) (as := [.inr (.inr 0)]) (h0 := rm g s n) (pc := 9) (lv := [(0, .inr (.inr 0)), (1, .inl b), (2, .inl i)]) (rest := [.inl i]) rfl trivial (re_side (g := g) (s := s) hn) ?_
    intro r_1 h_1 e_1; rw [e_1.1, e_1.2]
    refine pg_ca 1 (L := []) (Mc := pm_T_side) (as := [.inr (.inr 0)]) (h0 := rm g s n) (pc := 13) (lv := [(0, .inr (.inr 0)), (1, .inl b), (2, .inl i)]) (rest := [.inl (6 * n), .inl i]) rfl trivial (re_side (g := g) (s := s) hn) ?_
    intro r_1 h_1 e_1; rw [e_1.1, e_1.2]
    refine pg_br 1 (L := []) (P := pg_inR i ∧ pg_inR ((6 * n) * (6 * n))) (c := ((6 * n) * (6 * n)) ≤ i) (st1 := (44, [(0, .inr (.inr 0)), (1, .inl b), (2, .inl i)], [], rm g s n)) (st2 := (17, [(0, .inr (.inr 0)), (1, .inl b), (2, .inl i)], [], rm g s n)) rfl trivial ⟨⟨by omega, by omega⟩, ⟨by omega, by omega⟩⟩ (fun c_14_2 => ?_) (fun c_14_2 => ?_)
    · exact (by exfalso; omega)
    · refine pg_br 5 (L := [0 ≤ i ∧ i < (5184 : Int)]) (P := pg_inR (g 4 i.toNat) ∧ pg_inR b) (c := (g 4 i.toNat) ≤ b) (st1 := (36, [(0, .inr (.inr 0)), (1, .inl b), (2, .inl i)], [], rm g s n)) (st2 := (27, [(0, .inr (.inr 0)), (1, .inl b), (2, .inl i)], [], rm g s n)) rfl ⟨by omega, by omega⟩ ⟨⟨by omega, by omega⟩, ⟨by omega, by omega⟩⟩ (fun c_24_3 => ?_) (fun c_24_3 => ?_)
      · refine pg_go 4 (L := []) (st' := (4, [(0, .inr (.inr 0)), (1, .inl b), (2, .inl (i + 1))], [], rm g s n)) rfl trivial ?_
        refine ih _ _ (by omega) (by omega) ?_
        rw [ek]
        simp only [mt_mx]
        rw [← q4, ← hb]
        first | (rw [if_pos (by omega)]; done) | rw [if_neg (by omega)]
      · refine pg_go 8 (L := [0 ≤ i ∧ i < (5184 : Int)]) (st' := (4, [(0, .inr (.inr 0)), (1, .inl (g 4 i.toNat)), (2, .inl (i + 1))], [], rm g s n)) rfl ⟨by omega, by omega⟩ ?_
        refine ih _ _ (by omega) (by omega) ?_
        rw [ek]
        simp only [mt_mx]
        rw [← q4, ← hb]
        first | (rw [if_pos (by omega)]; done) | rw [if_neg (by omega)]
theorem re_mostTurns {g : pg_H} {s n : Int} (hB : rm_B g s n) (hS : ri_S g s n) (hP : ri_P g s n) : pg_Sem false pm_T_mostTurns [.inr (.inr 0)] (rm g s n) (fun r h' => r = some (.inl (mt_mx (g 1) s n (6 * n * (6 * n)).toNat)) ∧ h' = rm g s n) := by
  obtain ⟨hs, hn, hT⟩ := id hB
  obtain ⟨hn1, hn2⟩ := id hn
  have hr := mt_rd_or hs
  have h66 := mt_66 hn1 hn2
  have hN := mt_2rn hs hn
  refine pg_Sem_of pm_T_mostTurns_f rfl ?_
  refine pg_go 4 (L := []) (st' := (4, [(0, .inr (.inr 0)), (1, .inl 0), (2, .inl 0)], [], rm g s n)) rfl trivial ?_
  exact re_mt_l hB hS hP (6 * n * (6 * n)).toNat 0 0 (by omega) (by omega) rfl
set_option maxRecDepth 20000 in
set_option maxHeartbeats 4000000 in
theorem re_hp_l {g : pg_H} {s n : Int} (hB : rm_B g s n) (hS : ri_S g s n) (hP : ri_P g s n) {t w : Int} (ht : pg_inR t) (hw : w = 0 ∨ w = 1) : ∀ (d : Nat) (e i : Int) (hd : i + (d : Int) = 6 * n * (6 * n)) (hi : 0 ≤ i) (hI : (e = 1 ∧ mt_hp (g 1) s n t w i.toNat) ∨ (e = 0 ∧ ¬ mt_hp (g 1) s n t w i.toNat)), pg_Good false pm_T_hasPlace (fun r h' => r = some (.inl (pg_b (mt_hp (g 1) s n t w (6 * n * (6 * n)).toNat))) ∧ h' = rm g s n) (5, [(0, .inr (.inr 0)), (1, .inl t), (2, .inl w), (3, .inl e), (4, .inl i)], [], rm g s n) := by
  intro d
  induction d with
  | zero =>
    intro e i hd hi hI
    obtain ⟨hs, hn, hT⟩ := id hB
    obtain ⟨hn1, hn2⟩ := id hn
    have hr := mt_rd_or hs
    have h66 := mt_66 hn1 hn2
    have hN := mt_2rn hs hn
    obtain ⟨t1, t2⟩ := ht
    refine pg_ca 2 (L := []) (Mc := pm_T_side) (as := [.inr (.inr 0)]) (h0 := rm g s n) (pc := 11) (lv := [(0, .inr (.inr 0)), (1, .inl t), (2, .inl w), (3, .inl e), (4, .inl i)]) (rest := [.inl i]) rfl trivial (re_side (g := g) (s := s) hn) ?_
    intro r_1 h_1 e_1; rw [e_1.1, e_1.2]
    refine pg_ca 1 (L := []) (Mc := pm_T_side) (as := [.inr (.inr 0)]) (h0 := rm g s n) (pc := 15) (lv := [(0, .inr (.inr 0)), (1, .inl t), (2, .inl w), (3, .inl e), (4, .inl i)]) (rest := [.inl (6 * n), .inl i]) rfl trivial (re_side (g := g) (s := s) hn) ?_
    intro r_1 h_1 e_1; rw [e_1.1, e_1.2]
    refine pg_br 1 (L := []) (P := pg_inR i ∧ pg_inR ((6 * n) * (6 * n))) (c := ((6 * n) * (6 * n)) ≤ i) (st1 := (65, [(0, .inr (.inr 0)), (1, .inl t), (2, .inl w), (3, .inl e), (4, .inl i)], [], rm g s n)) (st2 := (19, [(0, .inr (.inr 0)), (1, .inl t), (2, .inl w), (3, .inl e), (4, .inl i)], [], rm g s n)) rfl trivial ⟨⟨by omega, by omega⟩, ⟨by omega, by omega⟩⟩ (fun c_16_1 => ?_) (fun c_16_1 => ?_)
    · refine pg_re 1 (L := [e = 0 ∨ e = 1]) (r := some (.inl e)) (h0 := rm g s n) rfl (by (show _ ∨ _); omega) ?_
      refine ⟨?_, rfl⟩
      rw [show 6 * n * (6 * n) = i by omega]
      rcases hI with h1 | h1
      · rw [h1.1, pg_b_t h1.2]
      · rw [h1.1, pg_b_f h1.2]
    · exact (by exfalso; omega)
  | succ d ih =>
    intro e i hd hi hI
    obtain ⟨hs, hn, hT⟩ := id hB
    obtain ⟨hn1, hn2⟩ := id hn
    have hr := mt_rd_or hs
    have h66 := mt_66 hn1 hn2
    have hN := mt_2rn hs hn
    obtain ⟨t1, t2⟩ := ht
    obtain ⟨p4, p5, -, -, q4, q5, -⟩ := ri_P_b hs hn hP (i := i.toNat) (by omega)
    have ek : (i + 1).toNat = i.toNat + 1 := by omega
    refine pg_ca 2 (L := []) (Mc := pm_T_side) (as := [.inr (.inr 0)]) (h0 := rm g s n) (pc := 11) (lv := [(0, .inr (.inr 0)), (1, .inl t), (2, .inl w), (3, .inl e), (4, .inl i)]) (rest := [.inl i]) rfl trivial (re_side (g := g) (s := s) hn) ?_
    intro r_1 h_1 e_1; rw [e_1.1, e_1.2]
    refine pg_ca 1 (L := []) (Mc := pm_T_side) (as := [.inr (.inr 0)]) (h0 := rm g s n) (pc := 15) (lv := [(0, .inr (.inr 0)), (1, .inl t), (2, .inl w), (3, .inl e), (4, .inl i)]) (rest := [.inl (6 * n), .inl i]) rfl trivial (re_side (g := g) (s := s) hn) ?_
    intro r_1 h_1 e_1; rw [e_1.1, e_1.2]
    refine pg_br 1 (L := []) (P := pg_inR i ∧ pg_inR ((6 * n) * (6 * n))) (c := ((6 * n) * (6 * n)) ≤ i) (st1 := (65, [(0, .inr (.inr 0)), (1, .inl t), (2, .inl w), (3, .inl e), (4, .inl i)], [], rm g s n)) (st2 := (19, [(0, .inr (.inr 0)), (1, .inl t), (2, .inl w), (3, .inl e), (4, .inl i)], [], rm g s n)) rfl trivial ⟨⟨by omega, by omega⟩, ⟨by omega, by omega⟩⟩ (fun c_16_2 => ?_) (fun c_16_2 => ?_)
    · exact (by exfalso; omega)
    · refine pg_br 1 (L := []) (P := pg_inR e) (c := ¬ e = 0) (st1 := (53, [(0, .inr (.inr 0)), (1, .inl t), (2, .inl w), (3, .inl e), (4, .inl i)], [], rm g s n)) (st2 := (23, [(0, .inr (.inr 0)), (1, .inl t), (2, .inl w), (3, .inl e), (4, .inl i)], [], rm g s n)) rfl trivial ⟨by omega, by omega⟩ (fun c_20_3 => ?_) (fun c_20_3 => ?_)
      · refine pg_go 5 (L := []) (st' := (5, [(0, .inr (.inr 0)), (1, .inl t), (2, .inl w), (3, .inl 1), (4, .inl (i + 1))], [], rm g s n)) rfl trivial ?_
        refine ih _ _ (by omega) (by omega) ?_
        rw [ek, mt_hp_s]
        refine Or.inl ⟨rfl, ?_⟩
        rcases hI with h1 | h1
        · exact Or.inl h1.2
        · first | (exfalso; omega) | (right; omega)
      · refine pg_br 5 (L := [0 ≤ i ∧ i < (5184 : Int)]) (P := pg_inR (g 4 i.toNat) ∧ pg_inR t) (c := ¬ (g 4 i.toNat) = t) (st1 := (57, [(0, .inr (.inr 0)), (1, .inl t), (2, .inl w), (3, .inl e), (4, .inl i)], [], rm g s n)) (st2 := (34, [(0, .inr (.inr 0)), (1, .inl t), (2, .inl w), (3, .inl e), (4, .inl i)], [], rm g s n)) rfl ⟨by omega, by omega⟩ ⟨⟨by omega, by omega⟩, ⟨by omega, by omega⟩⟩ (fun c_31_4 => ?_) (fun c_31_4 => ?_)
        · refine pg_go 4 (L := []) (st' := (5, [(0, .inr (.inr 0)), (1, .inl t), (2, .inl w), (3, .inl 0), (4, .inl (i + 1))], [], rm g s n)) rfl trivial ?_
          refine ih _ _ (by omega) (by omega) ?_
          rw [ek, mt_hp_s]
          refine Or.inr ⟨rfl, ?_⟩
          rcases hI with h1 | h1
          · exfalso; omega
          · rintro (h2 | h2)
            · exact h1.2 h2
            · omega
        · refine pg_br 4 (L := [0 ≤ i ∧ i < (5184 : Int)]) (P := pg_inR (g 5 i.toNat)) (c := (g 5 i.toNat) ≤ 0) (st1 := (48, [(0, .inr (.inr 0)), (1, .inl t), (2, .inl w), (3, .inl e), (4, .inl i)], [], rm g s n)) (st2 := (44, [(0, .inr (.inr 0)), (1, .inl t), (2, .inl w), (3, .inl e), (4, .inl i)], [], rm g s n)) rfl ⟨by omega, by omega⟩ ⟨by omega, by omega⟩ (fun c_41_5 => ?_) (fun c_41_5 => ?_)
          · refine pg_br 2 (L := []) (P := pg_inR 0 ∧ pg_inR w) (c := ¬ 0 = w) (st1 := (57, [(0, .inr (.inr 0)), (1, .inl t), (2, .inl w), (3, .inl e), (4, .inl i)], [], rm g s n)) (st2 := (53, [(0, .inr (.inr 0)), (1, .inl t), (2, .inl w), (3, .inl e), (4, .inl i)], [], rm g s n)) rfl trivial ⟨⟨by decide, by decide⟩, ⟨by omega, by omega⟩⟩ (fun c_50_6 => ?_) (fun c_50_6 => ?_)
            · refine pg_go 4 (L := []) (st' := (5, [(0, .inr (.inr 0)), (1, .inl t), (2, .inl w), (3, .inl 0), (4, .inl (i + 1))], [], rm g s n)) rfl trivial ?_
              refine ih _ _ (by omega) (by omega) ?_
              rw [ek, mt_hp_s]
              refine Or.inr ⟨rfl, ?_⟩
              rcases hI with h1 | h1
              · exfalso; omega
              · rintro (h2 | h2)
                · exact h1.2 h2
                · omega
            · refine pg_go 5 (L := []) (st' := (5, [(0, .inr (.inr 0)), (1, .inl t), (2, .inl w), (3, .inl 1), (4, .inl (i + 1))], [], rm g s n)) rfl trivial ?_
              refine ih _ _ (by omega) (by omega) ?_
              rw [ek, mt_hp_s]
              refine Or.inl ⟨rfl, ?_⟩
              rcases hI with h1 | h1
              · exact Or.inl h1.2
              · first | (exfalso; omega) | (right; omega)
          · refine pg_br 3 (L := []) (P := pg_inR 1 ∧ pg_inR w) (c := ¬ 1 = w) (st1 := (57, [(0, .inr (.inr 0)), (1, .inl t), (2, .inl w), (3, .inl e), (4, .inl i)], [], rm g s n)) (st2 := (53, [(0, .inr (.inr 0)), (1, .inl t), (2, .inl w), (3, .inl e), (4, .inl i)], [], rm g s n)) rfl trivial ⟨⟨by decide, by decide⟩, ⟨by omega, by omega⟩⟩ (fun c_50_7 => ?_) (fun c_50_7 => ?_)
            · refine pg_go 4 (L := []) (st' := (5, [(0, .inr (.inr 0)), (1, .inl t), (2, .inl w), (3, .inl 0), (4, .inl (i + 1))], [], rm g s n)) rfl trivial ?_
              refine ih _ _ (by omega) (by omega) ?_
              rw [ek, mt_hp_s]
              refine Or.inr ⟨rfl, ?_⟩
              rcases hI with h1 | h1
              · exfalso; omega
              · rintro (h2 | h2)
                · exact h1.2 h2
                · omega
            · refine pg_go 5 (L := []) (st' := (5, [(0, .inr (.inr 0)), (1, .inl t), (2, .inl w), (3, .inl 1), (4, .inl (i + 1))], [], rm g s n)) rfl trivial ?_
              refine ih _ _ (by omega) (by omega) ?_
              rw [ek, mt_hp_s]
              refine Or.inl ⟨rfl, ?_⟩
              rcases hI with h1 | h1
              · exact Or.inl h1.2
              · first | (exfalso; omega) | (right; omega)
theorem re_hasPlace {g : pg_H} {s n : Int} (hB : rm_B g s n) (hS : ri_S g s n) (hP : ri_P g s n) (t w : Int) (ht : pg_inR t) (hw : w = 0 ∨ w = 1) : pg_Sem false pm_T_hasPlace [.inr (.inr 0), .inl t, .inl w] (rm g s n) (fun r h' => r = some (.inl (pg_b (mt_hp (g 1) s n t w (6 * n * (6 * n)).toNat))) ∧ h' = rm g s n) := by
  obtain ⟨hs, hn, hT⟩ := id hB
  obtain ⟨hn1, hn2⟩ := id hn
  have hr := mt_rd_or hs
  have h66 := mt_66 hn1 hn2
  have hN := mt_2rn hs hn
  refine pg_Sem_of pm_T_hasPlace_f rfl ?_
  refine pg_go 4 (L := []) (st' := (5, [(0, .inr (.inr 0)), (1, .inl t), (2, .inl w), (3, .inl 0), (4, .inl 0)], [], rm g s n)) rfl trivial ?_
  exact re_hp_l hB hS hP ht hw (6 * n * (6 * n)).toNat 0 0 (by omega) (by omega) (Or.inr ⟨rfl, fun ⟨j, h, _⟩ => absurd h (by omega)⟩)
set_option maxRecDepth 20000 in
set_option maxHeartbeats 4000000 in
theorem re_hm_l {g : pg_H} {s n : Int} (hB : rm_B g s n) (hS : ri_S g s n) (hP : ri_P g s n) : ∀ (d : Nat) (e i : Int) (hd : i + (d : Int) = 6 * n * (6 * n)) (hi : 0 ≤ i) (hI : (e = 1 ∧ mt_hm (g 1) s n i.toNat) ∨ (e = 0 ∧ ¬ mt_hm (g 1) s n i.toNat)), pg_Good false pm_T_hasMirrors (fun r h' => r = some (.inl (pg_b (mt_hm (g 1) s n (6 * n * (6 * n)).toNat))) ∧ h' = rm g s n) (4, [(0, .inr (.inr 0)), (1, .inl e), (2, .inl i)], [], rm g s n) := by
  intro d
  induction d with
  | zero =>
    intro e i hd hi hI
    obtain ⟨hs, hn, hT⟩ := id hB
    obtain ⟨hn1, hn2⟩ := id hn
    have hr := mt_rd_or hs
    have h66 := mt_66 hn1 hn2
    have hN := mt_2rn hs hn
    refine pg_ca 2 (L := []) (Mc := pm_T_side) (as := [.inr (.inr 0)]) (h0 := rm g s n) (pc := 9) (lv := [(0, .inr (.inr 0)), (1, .inl e), (2, .inl i)]) (rest := [.inl i]) rfl trivial (re_side (g := g) (s := s) hn) ?_
    intro r_1 h_1 e_1; rw [e_1.1, e_1.2]
    refine pg_ca 1 (L := []) (Mc := pm_T_side) (as := [.inr (.inr 0)]) (h0 := rm g s n) (pc := 13) (lv := [(0, .inr (.inr 0)), (1, .inl e), (2, .inl i)]) (rest := [.inl (6 * n), .inl i]) rfl trivial (re_side (g := g) (s := s) hn) ?_
    intro r_1 h_1 e_1; rw [e_1.1, e_1.2]
    refine pg_br 1 (L := []) (P := pg_inR i ∧ pg_inR ((6 * n) * (6 * n))) (c := ((6 * n) * (6 * n)) ≤ i) (st1 := (42, [(0, .inr (.inr 0)), (1, .inl e), (2, .inl i)], [], rm g s n)) (st2 := (17, [(0, .inr (.inr 0)), (1, .inl e), (2, .inl i)], [], rm g s n)) rfl trivial ⟨⟨by omega, by omega⟩, ⟨by omega, by omega⟩⟩ (fun c_14_1 => ?_) (fun c_14_1 => ?_)
    · refine pg_re 1 (L := [e = 0 ∨ e = 1]) (r := some (.inl e)) (h0 := rm g s n) rfl (by (show _ ∨ _); omega) ?_
      refine ⟨?_, rfl⟩
      rw [show 6 * n * (6 * n) = i by omega]
      rcases hI with h1 | h1
      · rw [h1.1, pg_b_t h1.2]
      · rw [h1.1, pg_b_f h1.2]
    · exact (by exfalso; omega)
  | succ d ih =>
    intro e i hd hi hI
    obtain ⟨hs, hn, hT⟩ := id hB
    obtain ⟨hn1, hn2⟩ := id hn
    have hr := mt_rd_or hs
    have h66 := mt_66 hn1 hn2
    have hN := mt_2rn hs hn
    obtain ⟨p4, p5, -, -, q4, q5, -⟩ := ri_P_b hs hn hP (i := i.toNat) (by omega)
    have ek : (i + 1).toNat = i.toNat + 1 := by omega
    refine pg_ca 2 (L := []) (Mc := pm_T_side) (as := [.inr (.inr 0)]) (h0 := rm g s n) (pc := 9) (lv := [(0, .inr (.inr 0)), (1, .inl e), (2, .inl i)]) (rest := [.inl i]) rfl trivial (re_side (g := g) (s := s) hn) ?_
    intro r_1 h_1 e_1; rw [e_1.1, e_1.2]
    refine pg_ca 1 (L := []) (Mc := pm_T_side) (as := [.inr (.inr 0)]) (h0 := rm g s n) (pc := 13) (lv := [(0, .inr (.inr 0)), (1, .inl e), (2, .inl i)]) (rest := [.inl (6 * n), .inl i]) rfl trivial (re_side (g := g) (s := s) hn) ?_
    intro r_1 h_1 e_1; rw [e_1.1, e_1.2]
    refine pg_br 1 (L := []) (P := pg_inR i ∧ pg_inR ((6 * n) * (6 * n))) (c := ((6 * n) * (6 * n)) ≤ i) (st1 := (42, [(0, .inr (.inr 0)), (1, .inl e), (2, .inl i)], [], rm g s n)) (st2 := (17, [(0, .inr (.inr 0)), (1, .inl e), (2, .inl i)], [], rm g s n)) rfl trivial ⟨⟨by omega, by omega⟩, ⟨by omega, by omega⟩⟩ (fun c_14_2 => ?_) (fun c_14_2 => ?_)
    · exact (by exfalso; omega)
    · refine pg_br 1 (L := []) (P := pg_inR e) (c := ¬ e = 0) (st1 := (30, [(0, .inr (.inr 0)), (1, .inl e), (2, .inl i)], [], rm g s n)) (st2 := (21, [(0, .inr (.inr 0)), (1, .inl e), (2, .inl i)], [], rm g s n)) rfl trivial ⟨by omega, by omega⟩ (fun c_18_3 => ?_) (fun c_18_3 => ?_)
      · refine pg_go 5 (L := []) (st' := (4, [(0, .inr (.inr 0)), (1, .inl 1), (2, .inl (i + 1))], [], rm g s n)) rfl trivial ?_
        refine ih _ _ (by omega) (by omega) ?_
        rw [ek, mt_hm_s]
        refine Or.inl ⟨rfl, ?_⟩
        rcases hI with h1 | h1
        · exact Or.inl h1.2
        · first | (exfalso; omega) | (right; omega)
      · refine pg_br 4 (L := [0 ≤ i ∧ i < (5184 : Int)]) (P := pg_inR (g 5 i.toNat)) (c := (g 5 i.toNat) ≤ 0) (st1 := (34, [(0, .inr (.inr 0)), (1, .inl e), (2, .inl i)], [], rm g s n)) (st2 := (30, [(0, .inr (.inr 0)), (1, .inl e), (2, .inl i)], [], rm g s n)) rfl ⟨by omega, by omega⟩ ⟨by omega, by omega⟩ (fun c_27_4 => ?_) (fun c_27_4 => ?_)
        · refine pg_go 4 (L := []) (st' := (4, [(0, .inr (.inr 0)), (1, .inl 0), (2, .inl (i + 1))], [], rm g s n)) rfl trivial ?_
          refine ih _ _ (by omega) (by omega) ?_
          rw [ek, mt_hm_s]
          refine Or.inr ⟨rfl, ?_⟩
          rcases hI with h1 | h1
          · exfalso; omega
          · rintro (h2 | h2)
            · exact h1.2 h2
            · omega
        · refine pg_go 5 (L := []) (st' := (4, [(0, .inr (.inr 0)), (1, .inl 1), (2, .inl (i + 1))], [], rm g s n)) rfl trivial ?_
          refine ih _ _ (by omega) (by omega) ?_
          rw [ek, mt_hm_s]
          refine Or.inl ⟨rfl, ?_⟩
          rcases hI with h1 | h1
          · exact Or.inl h1.2
          · first | (exfalso; omega) | (right; omega)
theorem re_hasMirrors {g : pg_H} {s n : Int} (hB : rm_B g s n) (hS : ri_S g s n) (hP : ri_P g s n) : pg_Sem false pm_T_hasMirrors [.inr (.inr 0)] (rm g s n) (fun r h' => r = some (.inl (pg_b (mt_hm (g 1) s n (6 * n * (6 * n)).toNat))) ∧ h' = rm g s n) := by
  obtain ⟨hs, hn, hT⟩ := id hB
  obtain ⟨hn1, hn2⟩ := id hn
  have hr := mt_rd_or hs
  have h66 := mt_66 hn1 hn2
  have hN := mt_2rn hs hn
  refine pg_Sem_of pm_T_hasMirrors_f rfl ?_
  refine pg_go 4 (L := []) (st' := (4, [(0, .inr (.inr 0)), (1, .inl 0), (2, .inl 0)], [], rm g s n)) rfl trivial ?_
  exact re_hm_l hB hS hP (6 * n * (6 * n)).toNat 0 0 (by omega) (by omega) (Or.inr ⟨rfl, fun ⟨j, h, _⟩ => absurd h (by omega)⟩)
theorem re_isOn {g : pg_H} {s n : Int} (hB : rm_B g s n) (hS : ri_S g s n) (hP : ri_P g s n) (k p q : Int) (hk : 0 ≤ k ∧ k < 12) (hp : 0 ≤ p ∧ p < 6 * n) (hq : 0 ≤ q ∧ q < 6 * n) : pg_Sem false pm_T_isOn [.inr (.inr 0), .inl k, .inl p, .inl q] (rm g s n) (fun r h' => r = some (.inl (pg_b (mt_fk (g 1) s n (6 * n * q + p).toNat k.toNat))) ∧ h' = rm g s n) := by
  obtain ⟨hs, hn, hT⟩ := id hB
  obtain ⟨hn1, hn2⟩ := id hn
  have hr := mt_rd_or hs
  have h66 := mt_66 hn1 hn2
  have hN := mt_2rn hs hn
  have h6q := mt_6q hn1 hn2 hq
  have hpb : 0 ≤ (6 * n * q + p) ∧ (6 * n * q + p) < 6 * n * (6 * n) := by
    have c := Int.mul_le_mul_of_nonneg_left (show q ≤ 6 * n - 1 by omega) (show 0 ≤ 6 * n by omega)
    rw [Int.mul_sub] at c
    omega
  have hb := (ri_P_b hs hn hP (i := (6 * n * q + p).toNat) (by omega)).2.2.2.2.2.2
  have ho := ri_mk_on hb (k := k.toNat) (by omega)
  rw [show ((k.toNat : Nat) : Int) = k by omega] at ho
  have hbo := pg_b_or (mt_fk (g 1) s n (6 * n * q + p).toNat k.toNat)
  refine pg_Sem_of pm_T_isOn_f rfl ?_
  refine pg_ca 3 (L := []) (Mc := pm_T_side) (as := [.inr (.inr 0)]) (h0 := rm g s n) (pc := 8) (lv := [(0, .inr (.inr 0)), (1, .inl k), (2, .inl p), (3, .inl q)]) (rest := [.inr (.inr 6)]) rfl trivial (re_side (g := g) (s := s) hn) ?_
  intro r_1 h_1 e_1; rw [e_1.1, e_1.2]
  refine pg_br 10 (L := [0 ≤ (((6 * n) * q) + p) ∧ (((6 * n) * q) + p) < (5184 : Int)]) (P := pg_inR (pg_and (pg_shr (g 6 ((((6 * n) * q) + p).toNat)) k) 1) ∧ pg_inR 1) (c := ¬ (pg_and (pg_shr (g 6 ((((6 * n) * q) + p).toNat)) k) 1) = 1) (st1 := (25, [(0, .inr (.inr 0)), (1, .inl k), (2, .inl p), (3, .inl q)], [], rm g s n)) (st2 := (21, [(0, .inr (.inr 0)), (1, .inl k), (2, .inl p), (3, .inl q)], [], rm g s n)) rfl ⟨by omega, by omega⟩ ⟨⟨by omega, by omega⟩, ⟨by decide, by decide⟩⟩ (fun c_18_1 => ?_) (fun c_18_1 => ?_)
  · refine pg_re 1 (L := [0 = 0 ∨ 0 = 1]) (r := some (.inl 0)) (h0 := rm g s n) rfl (Or.inl rfl) ?_
    refine ⟨?_, rfl⟩
    congr 2
    omega
  · refine pg_re 2 (L := [1 = 0 ∨ 1 = 1]) (r := some (.inl 1)) (h0 := rm g s n) rfl (Or.inr rfl) ?_
    refine ⟨?_, rfl⟩
    congr 2
    omega
set_option maxRecDepth 20000 in
set_option maxHeartbeats 4000000 in
theorem re_hg_w {g : pg_H} {s n : Int} (hB : rm_B g s n) (hS : ri_S g s n) (hP : ri_P g s n) {e0 a k : Int} (ha : 0 ≤ a ∧ a < pg_cn (mt_sm (g 1) s n) (2 * mt_rd s * (n * n)).toNat) (hk : k = (g 3 a.toNat) / (n * n)) (hE : e0 = 0 ∨ e0 = 1) (hK : ∀ e2 : Int, (e2 = 1 ∧ (e0 = 1 ∨ mt_gw (g 1) s n (g 3 a.toNat) 4)) ∨ (e2 = 0 ∧ e0 = 0 ∧ ¬ mt_gw (g 1) s n (g 3 a.toNat) 4) → pg_Good false pm_T_hasGlides (fun r h' => r = some (.inl (pg_b (mt_hg (g 1) s n))) ∧ h' = rm g s n) (4, [(0, .inr (.inr 0)), (1, .inl e2), (2, .inl (a + 1))], [], rm g s n)) : ∀ (d : Nat) (e w : Int) (hd : w + (d : Int) = 4) (hw : 0 ≤ w) (hI : (e = 1 ∧ (e0 = 1 ∨ mt_gw (g 1) s n (g 3 a.toNat) w)) ∨ (e = 0 ∧ e0 = 0 ∧ ¬ mt_gw (g 1) s n (g 3 a.toNat) w)), pg_Good false pm_T_hasGlides (fun r h' => r = some (.inl (pg_b (mt_hg (g 1) s n))) ∧ h' = rm g s n) (30, [(0, .inr (.inr 0)), (1, .inl e), (2, .inl a), (3, .inl k), (4, .inl w)], [], rm g s n) := by
  intro d
  induction d with
  | zero =>
    intro e w hd hw hI
    obtain ⟨hs, hn, hT⟩ := id hB
    obtain ⟨hn1, hn2⟩ := id hn
    have hr := mt_rd_or hs
    have h66 := mt_66 hn1 hn2
    have hN := mt_2rn hs hn
    have hcb := pg_cn_bd (mt_sm (g 1) s n) (2 * mt_rd s * (n * n)).toNat
    have h6 : g 0 6 = pg_cn (mt_sm (g 1) s n) (2 * mt_rd s * (n * n)).toNat := hS.1
    refine pg_br 2 (L := []) (P := pg_inR w ∧ pg_inR 4) (c := 4 ≤ w) (st1 := (140, [(0, .inr (.inr 0)), (1, .inl e), (2, .inl a), (3, .inl k), (4, .inl w)], [], rm g s n)) (st2 := (36, [(0, .inr (.inr 0)), (1, .inl e), (2, .inl a), (3, .inl k), (4, .inl w)], [], rm g s n)) rfl trivial ⟨⟨by omega, by omega⟩, ⟨by decide, by decide⟩⟩ (fun c_33_1 => ?_) (fun c_33_1 => ?_)
    · refine pg_go 2 (L := []) (st' := (4, [(0, .inr (.inr 0)), (1, .inl e), (2, .inl (a + 1)), (3, .inl k), (4, .inl w)], [], rm g s n)) rfl trivial ?_
      refine pg_pick [0, 1, 2] rfl ?_
      exact hK e (by rw [show (4 : Int) = w by omega]; exact hI)
    · exact (by exfalso; omega)
  | succ d ih =>
    intro e w hd hw hI
    obtain ⟨hs, hn, hT⟩ := id hB
    obtain ⟨hn1, hn2⟩ := id hn
    have hr := mt_rd_or hs
    have h66 := mt_66 hn1 hn2
    have hN := mt_2rn hs hn
    have hcb := pg_cn_bd (mt_sm (g 1) s n) (2 * mt_rd s * (n * n)).toNat
    have h6 : g 0 6 = pg_cn (mt_sm (g 1) s n) (2 * mt_rd s * (n * n)).toNat := hS.1
    obtain ⟨m, hm1, hm2, hm3⟩ := pg_cn_ex (show 0 ≤ a by omega) (show a < pg_cn (mt_sm (g 1) s n) (2 * mt_rd s * (n * n)).toNat by omega)
    have hma : g 3 a.toNat = (m : Int) := by rw [← hm3]; exact hS.2 m (by omega) hm2
    have hka := mt_kof hn1 (show 0 ≤ g 3 a.toNat ∧ g 3 a.toNat < 2 * mt_rd s * (n * n) by omega)
    have hua := mt_mod hn1 (g 3 a.toNat / n)
    have hva := mt_mod hn1 (g 3 a.toNat)
    have hnw := mt_nw hn (show 0 ≤ w ∧ w < 4 by omega)
    have m6p := mt_mod (n := 6 * n) (by omega) (3 * ((g 3 a.toNat) / n % n + n * Int.tmod w 2))
    have m6q := mt_mod (n := 6 * n) (by omega) (3 * ((g 3 a.toNat) % n + n * Int.tdiv w 2))
    have hgs := mt_gw_s (col := g 1) (s := s) (n := n) (M := (g 3 a.toNat)) (w := w) hw
    have hgl : mt_gl (g 1) s n (g 3 a.toNat) w ↔ ¬ mt_fk (g 1) s n (6 * n * (3 * ((g 3 a.toNat) % n + n * Int.tdiv w 2) % (6 * n)) + 3 * ((g 3 a.toNat) / n % n + n * Int.tmod w 2) % (6 * n)).toNat k.toNat := by
      unfold mt_gl
      rw [hk, pg_tmod_nn hw, pg_tdiv_nn hw]
    refine pg_br 2 (L := []) (P := pg_inR w ∧ pg_inR 4) (c := 4 ≤ w) (st1 := (140, [(0, .inr (.inr 0)), (1, .inl e), (2, .inl a), (3, .inl k), (4, .inl w)], [], rm g s n)) (st2 := (36, [(0, .inr (.inr 0)), (1, .inl e), (2, .inl a), (3, .inl k), (4, .inl w)], [], rm g s n)) rfl trivial ⟨⟨by omega, by omega⟩, ⟨by decide, by decide⟩⟩ (fun c_33_2 => ?_) (fun c_33_2 => ?_)
    · exact (by exfalso; omega)
    · refine pg_ca 2 (L := []) (Mc := pm_T_round) (as := [.inr (.inr 0)]) (h0 := rm g s n) (pc := 41) (lv := [(0, .inr (.inr 0)), (1, .inl e), (2, .inl a), (3, .inl k), (4, .inl w)]) (rest := [.inl k]) rfl trivial (re_round (g := g) (n := n) hs) ?_
      intro r_1 h_1 e_1; rw [e_1.1, e_1.2]
      refine pg_br 0 (L := []) (P := pg_inR k ∧ pg_inR (mt_rd s)) (c := k < (mt_rd s)) (st1 := (140, [(0, .inr (.inr 0)), (1, .inl e), (2, .inl a), (3, .inl k), (4, .inl w)], [], rm g s n)) (st2 := (44, [(0, .inr (.inr 0)), (1, .inl e), (2, .inl a), (3, .inl k), (4, .inl w)], [], rm g s n)) rfl trivial ⟨⟨by omega, by omega⟩, ⟨by omega, by omega⟩⟩ (fun c_41_3 => ?_) (fun c_41_3 => ?_)
      · refine pg_go 2 (L := []) (st' := (4, [(0, .inr (.inr 0)), (1, .inl e), (2, .inl (a + 1)), (3, .inl k), (4, .inl w)], [], rm g s n)) rfl trivial ?_
        refine pg_pick [0, 1, 2] rfl ?_
        refine hK e ?_
        have hno : ∀ v, ¬ mt_gw (g 1) s n (g 3 a.toNat) v := fun v h => by have := h.1; omega
        rcases hI with ⟨h1, h2⟩ | ⟨h1, h2, h3⟩
        · refine Or.inl ⟨h1, ?_⟩
          rcases h2 with h2 | h2
          · exact Or.inl h2
          · exact absurd h2 (hno _)
        · exact Or.inr ⟨h1, h2, hno _⟩
      · refine pg_ca 6 (L := [0 ≤ a ∧ a < (1728 : Int)]) (Mc := pm_T_uOf) (as := [.inr (.inr 0), .inl (g 3 a.toNat)]) (h0 := rm g s n) (pc := 57) (lv := [(0, .inr (.inr 0)), (1, .inl e), (2, .inl a), (3, .inl k), (4, .inl w)]) (rest := [.inr (.inl 3)]) rfl ⟨by omega, by omega⟩ (re_uOf (g := g) (s := s) hn (g 3 a.toNat) ⟨by omega, by omega⟩) ?_
        intro r_1 h_1 e_1; rw [e_1.1, e_1.2]
        refine pg_ca 16 (L := [2 ≠ 0 ∧ pg_inR w ∧ pg_inR 2, pg_inR (((g 3 a.toNat) / n % n) + (n * (Int.tmod w 2))), 0 ≤ a ∧ a < (1728 : Int)]) (Mc := pm_T_vOf) (as := [.inr (.inr 0), .inl (g 3 a.toNat)]) (h0 := rm g s n) (pc := 84) (lv := [(0, .inr (.inr 0)), (1, .inl e), (2, .inl a), (3, .inl k), (4, .inl w), (5, .inr (.inl (3 * (((g 3 a.toNat) / n % n) + (n * (Int.tmod w 2))))))]) (rest := [.inr (.inl 3)]) rfl ⟨⟨by omega, ⟨by omega, by omega⟩, ⟨by omega, by omega⟩⟩, ⟨by omega, by omega⟩, ⟨by omega, by omega⟩⟩ (re_vOf (g := g) (s := s) hn (g 3 a.toNat) ⟨by omega, by omega⟩) ?_
        intro r_1 h_1 e_1; rw [e_1.1, e_1.2]
        refine pg_br 11 (L := [2 ≠ 0 ∧ pg_inR w ∧ pg_inR 2, pg_inR (((g 3 a.toNat) % n) + (n * (Int.tdiv w 2)))]) (P := pg_inR e) (c := ¬ e = 0) (st1 := (128, [(0, .inr (.inr 0)), (1, .inl e), (2, .inl a), (3, .inl k), (4, .inl w), (5, .inr (.inl (3 * (((g 3 a.toNat) / n % n) + (n * (Int.tmod w 2)))))), (7, .inr (.inl (3 * (((g 3 a.toNat) % n) + (n * (Int.tdiv w 2))))))], [], rm g s n)) (st2 := (102, [(0, .inr (.inr 0)), (1, .inl e), (2, .inl a), (3, .inl k), (4, .inl w), (5, .inr (.inl (3 * (((g 3 a.toNat) / n % n) + (n * (Int.tmod w 2)))))), (7, .inr (.inl (3 * (((g 3 a.toNat) % n) + (n * (Int.tdiv w 2))))))], [], rm g s n)) rfl ⟨⟨by omega, ⟨by omega, by omega⟩, ⟨by omega, by omega⟩⟩, ⟨by omega, by omega⟩⟩ ⟨by omega, by omega⟩ (fun c_99_4 => ?_) (fun c_99_4 => ?_)
        · refine pg_go 5 (L := []) (st' := (30, [(0, .inr (.inr 0)), (1, .inl 1), (2, .inl a), (3, .inl k), (4, .inl (w + 1)), (5, .inr (.inl (3 * (((g 3 a.toNat) / n % n) + (n * (Int.tmod w 2)))))), (7, .inr (.inl (3 * (((g 3 a.toNat) % n) + (n * (Int.tdiv w 2))))))], [], rm g s n)) rfl trivial ?_
          refine pg_pick [0, 1, 2, 3, 4] rfl ?_
          refine ih _ _ (by omega) (by omega) ?_
          rw [hgs]
          refine Or.inl ⟨rfl, ?_⟩
          rcases hI with ⟨h1, h2⟩ | ⟨h1, h2, h3⟩
          · rcases h2 with h2 | h2
            · exact Or.inl h2
            · exact Or.inr (Or.inl h2)
          · first | (exfalso; omega) | (right; right; refine ⟨by omega, hgl.mpr ?_⟩; rcases hbx with h4 | h4; (· exfalso; omega); (· exact h4.1))
        · refine pg_ca 4 (L := []) (Mc := pm_T_side) (as := [.inr (.inr 0)]) (h0 := rm g s n) (pc := 110) (lv := [(0, .inr (.inr 0)), (1, .inl e), (2, .inl a), (3, .inl k), (4, .inl w), (5, .inr (.inl (3 * (((g 3 a.toNat) / n % n) + (n * (Int.tmod w 2)))))), (7, .inr (.inl (3 * (((g 3 a.toNat) % n) + (n * (Int.tdiv w 2))))))]) (rest := [.inr (.inl (3 * (((g 3 a.toNat) / n % n) + (n * (Int.tmod w 2))))), .inl k, .inr (.inr 0)]) rfl trivial (re_side (g := g) (s := s) hn) ?_
          intro r_1 h_1 e_1; rw [e_1.1, e_1.2]
          refine pg_ca 0 (L := []) (Mc := pm_T_mod) (as := [.inr (.inl (3 * (((g 3 a.toNat) / n % n) + (n * (Int.tmod w 2))))), .inl (6 * n)]) (h0 := rm g s n) (pc := 113) (lv := [(0, .inr (.inr 0)), (1, .inl e), (2, .inl a), (3, .inl k), (4, .inl w), (5, .inr (.inl (3 * (((g 3 a.toNat) / n % n) + (n * (Int.tmod w 2)))))), (7, .inr (.inl (3 * (((g 3 a.toNat) % n) + (n * (Int.tdiv w 2))))))]) (rest := [.inl k, .inr (.inr 0)]) rfl trivial (re_mod (rm g s n) (3 * (((g 3 a.toNat) / n % n) + (n * (Int.tmod w 2)))) (6 * n) ⟨by omega, by omega⟩ ⟨by omega, by omega⟩) ?_
          intro r_1 h_1 e_1; rw [e_1.1, e_1.2]
          have hm_110 := mt_mod (n := (6 * n)) (by omega) (3 * (((g 3 a.toNat) / n % n) + (n * (Int.tmod w 2))))
          refine pg_ca 2 (L := []) (Mc := pm_T_side) (as := [.inr (.inr 0)]) (h0 := rm g s n) (pc := 119) (lv := [(0, .inr (.inr 0)), (1, .inl e), (2, .inl a), (3, .inl k), (4, .inl w), (5, .inr (.inl (3 * (((g 3 a.toNat) / n % n) + (n * (Int.tmod w 2)))))), (7, .inr (.inl (3 * (((g 3 a.toNat) % n) + (n * (Int.tdiv w 2))))))]) (rest := [.inr (.inl (3 * (((g 3 a.toNat) % n) + (n * (Int.tdiv w 2))))), .inl ((3 * (((g 3 a.toNat) / n % n) + (n * (Int.tmod w 2)))) % (6 * n)), .inl k, .inr (.inr 0)]) rfl trivial (re_side (g := g) (s := s) hn) ?_
          intro r_1 h_1 e_1; rw [e_1.1, e_1.2]
          refine pg_ca 0 (L := []) (Mc := pm_T_mod) (as := [.inr (.inl (3 * (((g 3 a.toNat) % n) + (n * (Int.tdiv w 2))))), .inl (6 * n)]) (h0 := rm g s n) (pc := 122) (lv := [(0, .inr (.inr 0)), (1, .inl e), (2, .inl a), (3, .inl k), (4, .inl w), (5, .inr (.inl (3 * (((g 3 a.toNat) / n % n) + (n * (Int.tmod w 2)))))), (7, .inr (.inl (3 * (((g 3 a.toNat) % n) + (n * (Int.tdiv w 2))))))]) (rest := [.inl ((3 * (((g 3 a.toNat) / n % n) + (n * (Int.tmod w 2)))) % (6 * n)), .inl k, .inr (.inr 0)]) rfl trivial (re_mod (rm g s n) (3 * (((g 3 a.toNat) % n) + (n * (Int.tdiv w 2)))) (6 * n) ⟨by omega, by omega⟩ ⟨by omega, by omega⟩) ?_
          intro r_1 h_1 e_1; rw [e_1.1, e_1.2]
          have hm_119 := mt_mod (n := (6 * n)) (by omega) (3 * (((g 3 a.toNat) % n) + (n * (Int.tdiv w 2))))
          refine pg_ca 0 (L := []) (Mc := pm_T_isOn) (as := [.inr (.inr 0), .inl k, .inl ((3 * (((g 3 a.toNat) / n % n) + (n * (Int.tmod w 2)))) % (6 * n)), .inl ((3 * (((g 3 a.toNat) % n) + (n * (Int.tdiv w 2)))) % (6 * n))]) (h0 := rm g s n) (pc := 125) (lv := [(0, .inr (.inr 0)), (1, .inl e), (2, .inl a), (3, .inl k), (4, .inl w), (5, .inr (.inl (3 * (((g 3 a.toNat) / n % n) + (n * (Int.tmod w 2)))))), (7, .inr (.inl (3 * (((g 3 a.toNat) % n) + (n * (Int.tdiv w 2))))))]) (rest := []) rfl trivial (re_isOn (g := g) hB hS hP k ((3 * (((g 3 a.toNat) / n % n) + (n * (Int.tmod w 2)))) % (6 * n)) ((3 * (((g 3 a.toNat) % n) + (n * (Int.tdiv w 2)))) % (6 * n)) ⟨by omega, by omega⟩ ⟨by omega, by omega⟩ ⟨by omega, by omega⟩) ?_
          intro r_1 h_1 e_1; rw [e_1.1, e_1.2]; have hbx := pg_b_or (mt_fk (g 1) s n (6 * n * ((3 * (((g 3 a.toNat) % n) + (n * (Int.tdiv w 2)))) % (6 * n)) + ((3 * (((g 3 a.toNat) / n % n) + (n * (Int.tmod w 2)))) % (6 * n))).toNat k.toNat)
          refine pg_br 0 (L := []) (P := pg_inR (pg_b (mt_fk (g 1) s n (6 * n * ((3 * (((g 3 a.toNat) % n) + (n * (Int.tdiv w 2)))) % (6 * n)) + ((3 * (((g 3 a.toNat) / n % n) + (n * (Int.tmod w 2)))) % (6 * n))).toNat k.toNat))) (c := ¬ (pg_b (mt_fk (g 1) s n (6 * n * ((3 * (((g 3 a.toNat) % n) + (n * (Int.tdiv w 2)))) % (6 * n)) + ((3 * (((g 3 a.toNat) / n % n) + (n * (Int.tmod w 2)))) % (6 * n))).toNat k.toNat)) = 0) (st1 := (132, [(0, .inr (.inr 0)), (1, .inl e), (2, .inl a), (3, .inl k), (4, .inl w), (5, .inr (.inl (3 * (((g 3 a.toNat) / n % n) + (n * (Int.tmod w 2)))))), (7, .inr (.inl (3 * (((g 3 a.toNat) % n) + (n * (Int.tdiv w 2))))))], [], rm g s n)) (st2 := (128, [(0, .inr (.inr 0)), (1, .inl e), (2, .inl a), (3, .inl k), (4, .inl w), (5, .inr (.inl (3 * (((g 3 a.toNat) / n % n) + (n * (Int.tmod w 2)))))), (7, .inr (.inl (3 * (((g 3 a.toNat) % n) + (n * (Int.tdiv w 2))))))], [], rm g s n)) rfl trivial ⟨by omega, by omega⟩ (fun c_125_5 => ?_) (fun c_125_5 => ?_)
          · refine pg_go 4 (L := []) (st' := (30, [(0, .inr (.inr 0)), (1, .inl 0), (2, .inl a), (3, .inl k), (4, .inl (w + 1)), (5, .inr (.inl (3 * (((g 3 a.toNat) / n % n) + (n * (Int.tmod w 2)))))), (7, .inr (.inl (3 * (((g 3 a.toNat) % n) + (n * (Int.tdiv w 2))))))], [], rm g s n)) rfl trivial ?_
            refine pg_pick [0, 1, 2, 3, 4] rfl ?_
            refine ih _ _ (by omega) (by omega) ?_
            rw [hgs]
            rcases hI with ⟨h1, h2⟩ | ⟨h1, h2, h3⟩
            · exfalso; omega
            · refine Or.inr ⟨rfl, h2, ?_⟩
              rintro (h4 | h4)
              · exact h3 h4
              · refine hgl.mp h4.2 ?_
                rcases hbx with h5 | h5
                · exact h5.1
                · exfalso; omega
          · refine pg_go 5 (L := []) (st' := (30, [(0, .inr (.inr 0)), (1, .inl 1), (2, .inl a), (3, .inl k), (4, .inl (w + 1)), (5, .inr (.inl (3 * (((g 3 a.toNat) / n % n) + (n * (Int.tmod w 2)))))), (7, .inr (.inl (3 * (((g 3 a.toNat) % n) + (n * (Int.tdiv w 2))))))], [], rm g s n)) rfl trivial ?_
            refine pg_pick [0, 1, 2, 3, 4] rfl ?_
            refine ih _ _ (by omega) (by omega) ?_
            rw [hgs]
            refine Or.inl ⟨rfl, ?_⟩
            rcases hI with ⟨h1, h2⟩ | ⟨h1, h2, h3⟩
            · rcases h2 with h2 | h2
              · exact Or.inl h2
              · exact Or.inr (Or.inl h2)
            · first | (exfalso; omega) | (right; right; refine ⟨by omega, hgl.mpr ?_⟩; rcases hbx with h4 | h4; (· exfalso; omega); (· exact h4.1))
set_option maxRecDepth 20000 in
set_option maxHeartbeats 4000000 in
theorem re_hg_l {g : pg_H} {s n : Int} (hB : rm_B g s n) (hS : ri_S g s n) (hP : ri_P g s n) : ∀ (d : Nat) (e a : Int) (hd : a + (d : Int) = pg_cn (mt_sm (g 1) s n) (2 * mt_rd s * (n * n)).toNat) (ha : 0 ≤ a) (hI : (e = 1 ∧ ∃ b : Nat, (b : Int) < a ∧ mt_gw (g 1) s n (g 3 b) 4) ∨ (e = 0 ∧ ¬ ∃ b : Nat, (b : Int) < a ∧ mt_gw (g 1) s n (g 3 b) 4)), pg_Good false pm_T_hasGlides (fun r h' => r = some (.inl (pg_b (mt_hg (g 1) s n))) ∧ h' = rm g s n) (4, [(0, .inr (.inr 0)), (1, .inl e), (2, .inl a)], [], rm g s n) := by
  intro d
  induction d with
  | zero =>
    intro e a hd ha hI
    obtain ⟨hs, hn, hT⟩ := id hB
    obtain ⟨hn1, hn2⟩ := id hn
    have hr := mt_rd_or hs
    have h66 := mt_66 hn1 hn2
    have hN := mt_2rn hs hn
    have hcb := pg_cn_bd (mt_sm (g 1) s n) (2 * mt_rd s * (n * n)).toNat
    have h6 : g 0 6 = pg_cn (mt_sm (g 1) s n) (2 * mt_rd s * (n * n)).toNat := hS.1
    refine pg_br 3 (L := []) (P := pg_inR a ∧ pg_inR (g 0 6)) (c := (g 0 6) ≤ a) (st1 := (146, [(0, .inr (.inr 0)), (1, .inl e), (2, .inl a)], [], rm g s n)) (st2 := (12, [(0, .inr (.inr 0)), (1, .inl e), (2, .inl a)], [], rm g s n)) rfl trivial ⟨⟨by omega, by omega⟩, ⟨by omega, by omega⟩⟩ (fun c_9_1 => ?_) (fun c_9_1 => ?_)
    · refine pg_re 1 (L := [e = 0 ∨ e = 1]) (r := some (.inl e)) (h0 := rm g s n) rfl (by (show _ ∨ _); omega) ?_
      refine ⟨?_, rfl⟩
      have hli := pg_ex_li (P := (mt_sm (g 1) s n)) (Q := fun m => mt_gw (g 1) s n m 4) (N := (2 * mt_rd s * (n * n)).toNat) (L := g 3) (fun m h1 => hS.2 m (by omega))
      rcases hI with h1 | h1
      · rw [h1.1, pg_b_t]
        obtain ⟨b, b1, b2⟩ := h1.2
        refine hli.mp ⟨b, by omega, ?_⟩
        obtain ⟨m, hm1, hm2, hm3⟩ := pg_cn_ex (show 0 ≤ (b : Int) by omega) (show (b : Int) < pg_cn (mt_sm (g 1) s n) (2 * mt_rd s * (n * n)).toNat by omega)
        have hmb : g 3 b = (m : Int) := by have h2 := hS.2 m (by omega) hm2; rw [hm3, Int.toNat_natCast] at h2; exact h2
        rw [show (((g 3 b).toNat : Nat) : Int) = g 3 b by omega]
        exact b2
      · rw [h1.1, pg_b_f]
        intro h2
        obtain ⟨b, b1, b2⟩ := hli.mpr h2
        refine h1.2 ⟨b, by omega, ?_⟩
        obtain ⟨m, hm1, hm2, hm3⟩ := pg_cn_ex (show 0 ≤ (b : Int) by omega) (show (b : Int) < pg_cn (mt_sm (g 1) s n) (2 * mt_rd s * (n * n)).toNat by omega)
        have hmb : g 3 b = (m : Int) := by have h2 := hS.2 m (by omega) hm2; rw [hm3, Int.toNat_natCast] at h2; exact h2
        rw [show (((g 3 b).toNat : Nat) : Int) = g 3 b by omega] at b2
        exact b2
    · exact (by exfalso; omega)
  | succ d ih =>
    intro e a hd ha hI
    obtain ⟨hs, hn, hT⟩ := id hB
    obtain ⟨hn1, hn2⟩ := id hn
    have hr := mt_rd_or hs
    have h66 := mt_66 hn1 hn2
    have hN := mt_2rn hs hn
    have hcb := pg_cn_bd (mt_sm (g 1) s n) (2 * mt_rd s * (n * n)).toNat
    have h6 : g 0 6 = pg_cn (mt_sm (g 1) s n) (2 * mt_rd s * (n * n)).toNat := hS.1
    obtain ⟨m, hm1, hm2, hm3⟩ := pg_cn_ex (show 0 ≤ a by omega) (show a < pg_cn (mt_sm (g 1) s n) (2 * mt_rd s * (n * n)).toNat by omega)
    have hma : g 3 a.toNat = (m : Int) := by rw [← hm3]; exact hS.2 m (by omega) hm2
    have hka := mt_kof hn1 (show 0 ≤ g 3 a.toNat ∧ g 3 a.toNat < 2 * mt_rd s * (n * n) by omega)
    refine pg_br 3 (L := []) (P := pg_inR a ∧ pg_inR (g 0 6)) (c := (g 0 6) ≤ a) (st1 := (146, [(0, .inr (.inr 0)), (1, .inl e), (2, .inl a)], [], rm g s n)) (st2 := (12, [(0, .inr (.inr 0)), (1, .inl e), (2, .inl a)], [], rm g s n)) rfl trivial ⟨⟨by omega, by omega⟩, ⟨by omega, by omega⟩⟩ (fun c_9_2 => ?_) (fun c_9_2 => ?_)
    · exact (by exfalso; omega)
    · refine pg_br 1 (L := []) (P := pg_inR e) (c := ¬ e = 0) (st1 := (146, [(0, .inr (.inr 0)), (1, .inl e), (2, .inl a)], [], rm g s n)) (st2 := (16, [(0, .inr (.inr 0)), (1, .inl e), (2, .inl a)], [], rm g s n)) rfl trivial ⟨by omega, by omega⟩ (fun c_13_3 => ?_) (fun c_13_3 => ?_)
      · refine pg_re 1 (L := [e = 0 ∨ e = 1]) (r := some (.inl e)) (h0 := rm g s n) rfl (by (show _ ∨ _); omega) ?_
        refine ⟨?_, rfl⟩
        have hli := pg_ex_li (P := (mt_sm (g 1) s n)) (Q := fun m => mt_gw (g 1) s n m 4) (N := (2 * mt_rd s * (n * n)).toNat) (L := g 3) (fun m h1 => hS.2 m (by omega))
        rcases hI with h1 | h1
        · rw [h1.1, pg_b_t]
          obtain ⟨b, b1, b2⟩ := h1.2
          refine hli.mp ⟨b, by omega, ?_⟩
          obtain ⟨m, hm1, hm2, hm3⟩ := pg_cn_ex (show 0 ≤ (b : Int) by omega) (show (b : Int) < pg_cn (mt_sm (g 1) s n) (2 * mt_rd s * (n * n)).toNat by omega)
          have hmb : g 3 b = (m : Int) := by have h2 := hS.2 m (by omega) hm2; rw [hm3, Int.toNat_natCast] at h2; exact h2
          rw [show (((g 3 b).toNat : Nat) : Int) = g 3 b by omega]
          exact b2
        · exfalso; omega
      · refine pg_ca 5 (L := [0 ≤ a ∧ a < (1728 : Int)]) (Mc := pm_T_kOf) (as := [.inr (.inr 0), .inl (g 3 a.toNat)]) (h0 := rm g s n) (pc := 26) (lv := [(0, .inr (.inr 0)), (1, .inl e), (2, .inl a)]) (rest := []) rfl ⟨by omega, by omega⟩ (re_kOf (g := g) (s := s) hn (g 3 a.toNat) ⟨by omega, by omega⟩) ?_
        intro r_1 h_1 e_1; rw [e_1.1, e_1.2]
        refine pg_go 3 (L := []) (st' := (30, [(0, .inr (.inr 0)), (1, .inl e), (2, .inl a), (3, .inl ((g 3 a.toNat) / (n * n))), (4, .inl 0)], [], rm g s n)) rfl trivial ?_
        refine re_hg_w hB hS hP (e0 := e) (a := a) (by omega) rfl (by omega) ?_ 4 e 0 (by omega) (by omega) ?_
        · intro e2 h2
          refine ih e2 _ (by omega) (by omega) ?_
          rcases h2 with ⟨h3, h4⟩ | ⟨h3, h4, h5⟩
          · refine Or.inl ⟨h3, ?_⟩
            rcases h4 with h4 | h4
            · rcases hI with h1 | h1
              · obtain ⟨b, b1, b2⟩ := h1.2
                exact ⟨b, by omega, b2⟩
              · exfalso; omega
            · exact ⟨a.toNat, by omega, h4⟩
          · refine Or.inr ⟨h3, ?_⟩
            rintro ⟨b, b1, b2⟩
            rcases (show (b : Int) < a ∨ b = a.toNat by omega) with h6 | rfl
            · rcases hI with h1 | h1
              · exfalso; omega
              · exact h1.2 ⟨b, h6, b2⟩
            · exact h5 b2
        · rcases hI with h1 | h1
          · exact Or.inl ⟨h1.1, Or.inl h1.1⟩
          · refine Or.inr ⟨h1.1, h1.1, ?_⟩
            rintro ⟨-, v, v1, -⟩; omega
theorem re_hasGlides {g : pg_H} {s n : Int} (hB : rm_B g s n) (hS : ri_S g s n) (hP : ri_P g s n) : pg_Sem false pm_T_hasGlides [.inr (.inr 0)] (rm g s n) (fun r h' => r = some (.inl (pg_b (mt_hg (g 1) s n))) ∧ h' = rm g s n) := by
  obtain ⟨hs, hn, hT⟩ := id hB
  obtain ⟨hn1, hn2⟩ := id hn
  have hr := mt_rd_or hs
  have h66 := mt_66 hn1 hn2
  have hN := mt_2rn hs hn
  have hcb := pg_cn_bd (mt_sm (g 1) s n) (2 * mt_rd s * (n * n)).toNat
  have h6 : g 0 6 = pg_cn (mt_sm (g 1) s n) (2 * mt_rd s * (n * n)).toNat := hS.1
  refine pg_Sem_of pm_T_hasGlides_f rfl ?_
  refine pg_go 4 (L := []) (st' := (4, [(0, .inr (.inr 0)), (1, .inl 0), (2, .inl 0)], [], rm g s n)) rfl trivial ?_
  refine re_hg_l hB hS hP (pg_cn (mt_sm (g 1) s n) (2 * mt_rd s * (n * n)).toNat).toNat 0 0 (by omega) (by omega) (Or.inr ⟨rfl, ?_⟩)
  rintro ⟨b, b1, -⟩; omega
set_option maxRecDepth 20000 in
set_option maxHeartbeats 4000000 in
theorem re_mw_i {g : pg_H} {s n : Int} (hB : rm_B g s n) (hS : ri_S g s n) (hP : ri_P g s n) {f k : Int} (hk : mt_rd s ≤ k ∧ k < 2 * mt_rd s) (hK : ∀ e2 i2 : Int, (e2 = 1 ∧ mt_mk (g 1) s n k.toNat (6 * n * (6 * n)).toNat) ∨ (e2 = 0 ∧ ¬ mt_mk (g 1) s n k.toNat (6 * n * (6 * n)).toNat) → pg_Good false pm_T_mirrorWays (fun r h' => r = some (.inl (pg_cn (fun t => mt_mk (g 1) s n ((mt_rd s).toNat + t) (6 * n * (6 * n)).toNat) (mt_rd s).toNat)) ∧ h' = rm g s n) (84, [(0, .inr (.inr 0)), (1, .inl f), (2, .inl k), (3, .inl e2), (4, .inl i2)], [], rm g s n)) : ∀ (d : Nat) (e i : Int) (hd : i + (d : Int) = 6 * n * (6 * n)) (hi : 0 ≤ i) (hI : (e = 1 ∧ mt_mk (g 1) s n k.toNat i.toNat) ∨ (e = 0 ∧ ¬ mt_mk (g 1) s n k.toNat i.toNat)), pg_Good false pm_T_mirrorWays (fun r h' => r = some (.inl (pg_cn (fun t => mt_mk (g 1) s n ((mt_rd s).toNat + t) (6 * n * (6 * n)).toNat) (mt_rd s).toNat)) ∧ h' = rm g s n) (22, [(0, .inr (.inr 0)), (1, .inl f), (2, .inl k), (3, .inl e), (4, .inl i)], [], rm g s n) := by
  intro d
  induction d with
  | zero =>
    intro e i hd hi hI
    obtain ⟨hs, hn, hT⟩ := id hB
    obtain ⟨hn1, hn2⟩ := id hn
    have hr := mt_rd_or hs
    have h66 := mt_66 hn1 hn2
    have hN := mt_2rn hs hn
    refine pg_ca 2 (L := []) (Mc := pm_T_side) (as := [.inr (.inr 0)]) (h0 := rm g s n) (pc := 28) (lv := [(0, .inr (.inr 0)), (1, .inl f), (2, .inl k), (3, .inl e), (4, .inl i)]) (rest := [.inl i]) rfl trivial (re_side (g := g) (s := s) hn) ?_
    intro r_1 h_1 e_1; rw [e_1.1, e_1.2]
    refine pg_ca 1 (L := []) (Mc := pm_T_side) (as := [.inr (.inr 0)]) (h0 := rm g s n) (pc := 32) (lv := [(0, .inr (.inr 0)), (1, .inl f), (2, .inl k), (3, .inl e), (4, .inl i)]) (rest := [.inl (6 * n), .inl i]) rfl trivial (re_side (g := g) (s := s) hn) ?_
    intro r_1 h_1 e_1; rw [e_1.1, e_1.2]
    refine pg_br 1 (L := []) (P := pg_inR i ∧ pg_inR ((6 * n) * (6 * n))) (c := ((6 * n) * (6 * n)) ≤ i) (st1 := (84, [(0, .inr (.inr 0)), (1, .inl f), (2, .inl k), (3, .inl e), (4, .inl i)], [], rm g s n)) (st2 := (36, [(0, .inr (.inr 0)), (1, .inl f), (2, .inl k), (3, .inl e), (4, .inl i)], [], rm g s n)) rfl trivial ⟨⟨by omega, by omega⟩, ⟨by omega, by omega⟩⟩ (fun c_33_1 => ?_) (fun c_33_1 => ?_)
    · refine hK _ _ ?_
      rcases hI with h1 | h1
      · refine Or.inl ⟨h1.1, ?_⟩
        obtain ⟨j, j1, j2⟩ := h1.2
        exact ⟨j, by omega, j2⟩
      · first | (exfalso; omega) | exact Or.inr ⟨h1.1, by rw [show 6 * n * (6 * n) = i by omega]; exact h1.2⟩
    · exact (by exfalso; omega)
  | succ d ih =>
    intro e i hd hi hI
    obtain ⟨hs, hn, hT⟩ := id hB
    obtain ⟨hn1, hn2⟩ := id hn
    have hr := mt_rd_or hs
    have h66 := mt_66 hn1 hn2
    have hN := mt_2rn hs hn
    have et := pg_tmod_nn (x := i) (y := 6 * n) (by omega)
    have ed := pg_tdiv_nn (x := i) (y := 6 * n) (by omega)
    have h6s := mt_6s hn1 (show 0 ≤ i ∧ i < 6 * n * (6 * n) by omega)
    have e66 : 6 * n * Int.tdiv i (6 * n) + Int.tmod i (6 * n) = i := by rw [ed, et]; exact h6s.2.2
    obtain ⟨p4, p5, -, -, q4, q5, -⟩ := ri_P_b hs hn hP (i := i.toNat) (by omega)
    have ek : (i + 1).toNat = i.toNat + 1 := by omega
    refine pg_ca 2 (L := []) (Mc := pm_T_side) (as := [.inr (.inr 0)]) (h0 := rm g s n) (pc := 28) (lv := [(0, .inr (.inr 0)), (1, .inl f), (2, .inl k), (3, .inl e), (4, .inl i)]) (rest := [.inl i]) rfl trivial (re_side (g := g) (s := s) hn) ?_
    intro r_1 h_1 e_1; rw [e_1.1, e_1.2]
    refine pg_ca 1 (L := []) (Mc := pm_T_side) (as := [.inr (.inr 0)]) (h0 := rm g s n) (pc := 32) (lv := [(0, .inr (.inr 0)), (1, .inl f), (2, .inl k), (3, .inl e), (4, .inl i)]) (rest := [.inl (6 * n), .inl i]) rfl trivial (re_side (g := g) (s := s) hn) ?_
    intro r_1 h_1 e_1; rw [e_1.1, e_1.2]
    refine pg_br 1 (L := []) (P := pg_inR i ∧ pg_inR ((6 * n) * (6 * n))) (c := ((6 * n) * (6 * n)) ≤ i) (st1 := (84, [(0, .inr (.inr 0)), (1, .inl f), (2, .inl k), (3, .inl e), (4, .inl i)], [], rm g s n)) (st2 := (36, [(0, .inr (.inr 0)), (1, .inl f), (2, .inl k), (3, .inl e), (4, .inl i)], [], rm g s n)) rfl trivial ⟨⟨by omega, by omega⟩, ⟨by omega, by omega⟩⟩ (fun c_33_2 => ?_) (fun c_33_2 => ?_)
    · exact (by exfalso; omega)
    · refine pg_br 1 (L := []) (P := pg_inR e) (c := ¬ e = 0) (st1 := (84, [(0, .inr (.inr 0)), (1, .inl f), (2, .inl k), (3, .inl e), (4, .inl i)], [], rm g s n)) (st2 := (40, [(0, .inr (.inr 0)), (1, .inl f), (2, .inl k), (3, .inl e), (4, .inl i)], [], rm g s n)) rfl trivial ⟨by omega, by omega⟩ (fun c_37_3 => ?_) (fun c_37_3 => ?_)
      · refine hK _ _ ?_
        rcases hI with h1 | h1
        · refine Or.inl ⟨h1.1, ?_⟩
          obtain ⟨j, j1, j2⟩ := h1.2
          exact ⟨j, by omega, j2⟩
        · first | (exfalso; omega) | exact Or.inr ⟨h1.1, by rw [show 6 * n * (6 * n) = i by omega]; exact h1.2⟩
      · refine pg_br 4 (L := [0 ≤ i ∧ i < (5184 : Int)]) (P := pg_inR (g 5 i.toNat)) (c := (g 5 i.toNat) ≤ 0) (st1 := (76, [(0, .inr (.inr 0)), (1, .inl f), (2, .inl k), (3, .inl e), (4, .inl i)], [], rm g s n)) (st2 := (50, [(0, .inr (.inr 0)), (1, .inl f), (2, .inl k), (3, .inl e), (4, .inl i)], [], rm g s n)) rfl ⟨by omega, by omega⟩ ⟨by omega, by omega⟩ (fun c_47_4 => ?_) (fun c_47_4 => ?_)
        · refine pg_go 4 (L := []) (st' := (22, [(0, .inr (.inr 0)), (1, .inl f), (2, .inl k), (3, .inl 0), (4, .inl (i + 1))], [], rm g s n)) rfl trivial ?_
          refine ih _ _ (by omega) (by omega) ?_
          rw [ek, mt_mk_s]
          refine Or.inr ⟨rfl, ?_⟩
          rcases hI with h1 | h1
          · exfalso; omega
          · rintro (h2 | h2)
            · exact h1.2 h2
            · first | omega | (rcases hbx with h4 | h4; (· exfalso; omega); (· rw [e66] at h4; exact h4.1 h2.2))
        · refine pg_ca 4 (L := []) (Mc := pm_T_side) (as := [.inr (.inr 0)]) (h0 := rm g s n) (pc := 58) (lv := [(0, .inr (.inr 0)), (1, .inl f), (2, .inl k), (3, .inl e), (4, .inl i)]) (rest := [.inl i, .inl k, .inr (.inr 0)]) rfl trivial (re_side (g := g) (s := s) hn) ?_
          intro r_1 h_1 e_1; rw [e_1.1, e_1.2]
          refine pg_ca 3 (L := [(6 * n) ≠ 0 ∧ pg_inR i ∧ pg_inR (6 * n)]) (Mc := pm_T_side) (as := [.inr (.inr 0)]) (h0 := rm g s n) (pc := 65) (lv := [(0, .inr (.inr 0)), (1, .inl f), (2, .inl k), (3, .inl e), (4, .inl i)]) (rest := [.inl i, .inl (Int.tmod i (6 * n)), .inl k, .inr (.inr 0)]) rfl ⟨by omega, ⟨by omega, by omega⟩, ⟨by omega, by omega⟩⟩ (re_side (g := g) (s := s) hn) ?_
          intro r_1 h_1 e_1; rw [e_1.1, e_1.2]
          refine pg_ca 1 (L := [(6 * n) ≠ 0 ∧ pg_inR i ∧ pg_inR (6 * n)]) (Mc := pm_T_isOn) (as := [.inr (.inr 0), .inl k, .inl (Int.tmod i (6 * n)), .inl (Int.tdiv i (6 * n))]) (h0 := rm g s n) (pc := 69) (lv := [(0, .inr (.inr 0)), (1, .inl f), (2, .inl k), (3, .inl e), (4, .inl i)]) (rest := []) rfl ⟨by omega, ⟨by omega, by omega⟩, ⟨by omega, by omega⟩⟩ (re_isOn (g := g) hB hS hP k (Int.tmod i (6 * n)) (Int.tdiv i (6 * n)) ⟨by omega, by omega⟩ ⟨by omega, by omega⟩ ⟨by omega, by omega⟩) ?_
          intro r_1 h_1 e_1; rw [e_1.1, e_1.2]; have hbx := pg_b_or (mt_fk (g 1) s n (6 * n * (Int.tdiv i (6 * n)) + (Int.tmod i (6 * n))).toNat k.toNat)
          refine pg_br 0 (L := []) (P := pg_inR (pg_b (mt_fk (g 1) s n (6 * n * (Int.tdiv i (6 * n)) + (Int.tmod i (6 * n))).toNat k.toNat))) (c := (pg_b (mt_fk (g 1) s n (6 * n * (Int.tdiv i (6 * n)) + (Int.tmod i (6 * n))).toNat k.toNat)) = 0) (st1 := (76, [(0, .inr (.inr 0)), (1, .inl f), (2, .inl k), (3, .inl e), (4, .inl i)], [], rm g s n)) (st2 := (72, [(0, .inr (.inr 0)), (1, .inl f), (2, .inl k), (3, .inl e), (4, .inl i)], [], rm g s n)) rfl trivial ⟨by omega, by omega⟩ (fun c_69_5 => ?_) (fun c_69_5 => ?_)
          · refine pg_go 4 (L := []) (st' := (22, [(0, .inr (.inr 0)), (1, .inl f), (2, .inl k), (3, .inl 0), (4, .inl (i + 1))], [], rm g s n)) rfl trivial ?_
            refine ih _ _ (by omega) (by omega) ?_
            rw [ek, mt_mk_s]
            refine Or.inr ⟨rfl, ?_⟩
            rcases hI with h1 | h1
            · exfalso; omega
            · rintro (h2 | h2)
              · exact h1.2 h2
              · first | omega | (rcases hbx with h4 | h4; (· exfalso; omega); (· rw [e66] at h4; exact h4.1 h2.2))
          · refine pg_go 5 (L := []) (st' := (22, [(0, .inr (.inr 0)), (1, .inl f), (2, .inl k), (3, .inl 1), (4, .inl (i + 1))], [], rm g s n)) rfl trivial ?_
            refine ih _ _ (by omega) (by omega) ?_
            rw [ek, mt_mk_s]
            refine Or.inl ⟨rfl, Or.inr ⟨by omega, ?_⟩⟩
            rcases hbx with h4 | h4
            · rw [e66] at h4; exact h4.1
            · exfalso; omega
set_option maxRecDepth 20000 in
set_option maxHeartbeats 4000000 in
theorem re_mw_4 {g : pg_H} {s n : Int} (hB : rm_B g s n) (hS : ri_S g s n) (hP : ri_P g s n) {f k e x : Int} (hf : 0 ≤ f ∧ f < 100) (hk : mt_rd s ≤ k ∧ k < 2 * mt_rd s) (he : e = 0 ∨ e = 1) (hK : pg_Good false pm_T_mirrorWays (fun r h' => r = some (.inl (pg_cn (fun t => mt_mk (g 1) s n ((mt_rd s).toNat + t) (6 * n * (6 * n)).toNat) (mt_rd s).toNat)) ∧ h' = rm g s n) (7, [(0, .inr (.inr 0)), (1, .inl (if e = 1 then f + 1 else f)), (2, .inl (k + 1))], [], rm g s n)) : pg_Good false pm_T_mirrorWays (fun r h' => r = some (.inl (pg_cn (fun t => mt_mk (g 1) s n ((mt_rd s).toNat + t) (6 * n * (6 * n)).toNat) (mt_rd s).toNat)) ∧ h' = rm g s n) (84, [(0, .inr (.inr 0)), (1, .inl f), (2, .inl k), (3, .inl e), (4, .inl x)], [], rm g s n) := by
  obtain ⟨hs, hn, hT⟩ := id hB
  obtain ⟨hn1, hn2⟩ := id hn
  have hr := mt_rd_or hs
  have h66 := mt_66 hn1 hn2
  have hN := mt_2rn hs hn
  refine pg_br 1 (L := []) (P := pg_inR e) (c := e = 0) (st1 := (94, [(0, .inr (.inr 0)), (1, .inl f), (2, .inl k), (3, .inl e), (4, .inl x)], [], rm g s n)) (st2 := (88, [(0, .inr (.inr 0)), (1, .inl f), (2, .inl k), (3, .inl e), (4, .inl x)], [], rm g s n)) rfl trivial ⟨by omega, by omega⟩ (fun c_85_1 => ?_) (fun c_85_1 => ?_)
  · refine pg_go 4 (L := []) (st' := (7, [(0, .inr (.inr 0)), (1, .inl f), (2, .inl (k + 1)), (3, .inl e), (4, .inl x)], [], rm g s n)) rfl trivial ?_
    refine pg_pick [0, 1, 2] rfl ?_
    rw [if_neg (by omega)] at hK
    exact hK
  · refine pg_go 7 (L := []) (st' := (7, [(0, .inr (.inr 0)), (1, .inl (f + 1)), (2, .inl (k + 1)), (3, .inl e), (4, .inl x)], [], rm g s n)) rfl trivial ?_
    refine pg_pick [0, 1, 2] rfl ?_
    rw [if_pos (by omega)] at hK
    exact hK
set_option maxRecDepth 20000 in
set_option maxHeartbeats 4000000 in
theorem re_mw_l {g : pg_H} {s n : Int} (hB : rm_B g s n) (hS : ri_S g s n) (hP : ri_P g s n) : ∀ (d : Nat) (f k : Int) (hd : k + (d : Int) = 2 * mt_rd s) (hk : mt_rd s ≤ k) (hF : f = pg_cn (fun t => mt_mk (g 1) s n ((mt_rd s).toNat + t) (6 * n * (6 * n)).toNat) (k - mt_rd s).toNat), pg_Good false pm_T_mirrorWays (fun r h' => r = some (.inl (pg_cn (fun t => mt_mk (g 1) s n ((mt_rd s).toNat + t) (6 * n * (6 * n)).toNat) (mt_rd s).toNat)) ∧ h' = rm g s n) (7, [(0, .inr (.inr 0)), (1, .inl f), (2, .inl k)], [], rm g s n) := by
  intro d
  induction d with
  | zero =>
    intro f k hd hk hF
    obtain ⟨hs, hn, hT⟩ := id hB
    obtain ⟨hn1, hn2⟩ := id hn
    have hr := mt_rd_or hs
    have h66 := mt_66 hn1 hn2
    have hN := mt_2rn hs hn
    refine pg_ca 3 (L := []) (Mc := pm_T_round) (as := [.inr (.inr 0)]) (h0 := rm g s n) (pc := 13) (lv := [(0, .inr (.inr 0)), (1, .inl f), (2, .inl k)]) (rest := [.inl 2, .inl k]) rfl trivial (re_round (g := g) (n := n) hs) ?_
    intro r_1 h_1 e_1; rw [e_1.1, e_1.2]
    refine pg_br 1 (L := []) (P := pg_inR k ∧ pg_inR (2 * (mt_rd s))) (c := (2 * (mt_rd s)) ≤ k) (st1 := (102, [(0, .inr (.inr 0)), (1, .inl f), (2, .inl k)], [], rm g s n)) (st2 := (17, [(0, .inr (.inr 0)), (1, .inl f), (2, .inl k)], [], rm g s n)) rfl trivial ⟨⟨by omega, by omega⟩, ⟨by omega, by omega⟩⟩ (fun c_14_1 => ?_) (fun c_14_1 => ?_)
    · refine pg_re 1 (L := []) (r := some (.inl f)) (h0 := rm g s n) rfl trivial ?_
      refine ⟨?_, rfl⟩
      rw [hF, show k - mt_rd s = mt_rd s by omega]
    · exact (by exfalso; omega)
  | succ d ih =>
    intro f k hd hk hF
    obtain ⟨hs, hn, hT⟩ := id hB
    obtain ⟨hn1, hn2⟩ := id hn
    have hr := mt_rd_or hs
    have h66 := mt_66 hn1 hn2
    have hN := mt_2rn hs hn
    have hfb := pg_cn_bd (fun t => mt_mk (g 1) s n ((mt_rd s).toNat + t) (6 * n * (6 * n)).toNat) (k - mt_rd s).toNat
    have ek : (k + 1 - mt_rd s).toNat = (k - mt_rd s).toNat + 1 := by omega
    have ek2 : (mt_rd s).toNat + (k - mt_rd s).toNat = k.toNat := by omega
    refine pg_ca 3 (L := []) (Mc := pm_T_round) (as := [.inr (.inr 0)]) (h0 := rm g s n) (pc := 13) (lv := [(0, .inr (.inr 0)), (1, .inl f), (2, .inl k)]) (rest := [.inl 2, .inl k]) rfl trivial (re_round (g := g) (n := n) hs) ?_
    intro r_1 h_1 e_1; rw [e_1.1, e_1.2]
    refine pg_br 1 (L := []) (P := pg_inR k ∧ pg_inR (2 * (mt_rd s))) (c := (2 * (mt_rd s)) ≤ k) (st1 := (102, [(0, .inr (.inr 0)), (1, .inl f), (2, .inl k)], [], rm g s n)) (st2 := (17, [(0, .inr (.inr 0)), (1, .inl f), (2, .inl k)], [], rm g s n)) rfl trivial ⟨⟨by omega, by omega⟩, ⟨by omega, by omega⟩⟩ (fun c_14_2 => ?_) (fun c_14_2 => ?_)
    · exact (by exfalso; omega)
    · refine pg_go 4 (L := []) (st' := (22, [(0, .inr (.inr 0)), (1, .inl f), (2, .inl k), (3, .inl 0), (4, .inl 0)], [], rm g s n)) rfl trivial ?_
      refine re_mw_i hB hS hP (f := f) (k := k) (by omega) ?_ (6 * n * (6 * n)).toNat 0 0 (by omega) (by omega) (Or.inr ⟨rfl, fun ⟨j, h, _⟩ => absurd h (by omega)⟩)
      intro e2 i2 h2
      refine re_mw_4 hB hS hP (by omega) (by omega) (by omega) (ih _ _ (by omega) (by omega) ?_)
      rw [ek]
      simp only [pg_cn]
      rw [ek2]
      rcases h2 with h3 | h3
      · rw [if_pos h3.1, pg_b_t h3.2, hF]
      · rw [if_neg (by omega), pg_b_f h3.2, hF, Int.add_zero]
theorem re_mirrorWays {g : pg_H} {s n : Int} (hB : rm_B g s n) (hS : ri_S g s n) (hP : ri_P g s n) : pg_Sem false pm_T_mirrorWays [.inr (.inr 0)] (rm g s n) (fun r h' => r = some (.inl (pg_cn (fun t => mt_mk (g 1) s n ((mt_rd s).toNat + t) (6 * n * (6 * n)).toNat) (mt_rd s).toNat)) ∧ h' = rm g s n) := by
  obtain ⟨hs, hn, hT⟩ := id hB
  obtain ⟨hn1, hn2⟩ := id hn
  have hr := mt_rd_or hs
  have h66 := mt_66 hn1 hn2
  have hN := mt_2rn hs hn
  refine pg_Sem_of pm_T_mirrorWays_f rfl ?_
  refine pg_ca 3 (L := []) (Mc := pm_T_round) (as := [.inr (.inr 0)]) (h0 := rm g s n) (pc := 6) (lv := [(0, .inr (.inr 0)), (1, .inl 0)]) (rest := []) rfl trivial (re_round (g := g) (n := n) hs) ?_
  intro r_1 h_1 e_1; rw [e_1.1, e_1.2]
  refine pg_go 1 (L := []) (st' := (7, [(0, .inr (.inr 0)), (1, .inl 0), (2, .inl (mt_rd s))], [], rm g s n)) rfl trivial ?_
  refine re_mw_l hB hS hP (mt_rd s).toNat 0 (mt_rd s) (by omega) (by omega) ?_
  rw [Int.sub_self]; rfl
