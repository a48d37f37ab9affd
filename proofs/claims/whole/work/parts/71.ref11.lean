/-! the reference: left, feature, kind, strips -/
theorem mt_cc_bd {s n : Int} (hn : 1 ≤ n ∧ n ≤ 12) (col : Nat → Int) (r w : Int) : 0 ≤ mt_cc col s n r w ∧ mt_cc col s n r w ≤ 5184 := by
  have h := mt_66 hn.1 hn.2
  have a := pg_cn_bd (fun i => mt_rp col s n i ∧ (mt_tu col s n i = r ∧ (0 < mt_mi col s n i ↔ w = 1))) (6 * n * (6 * n)).toNat
  unfold mt_cc
  omega
/-- what is left of 24 twelfths -/
noncomputable def mt_lf (col : Nat → Int) (s n z : Int) : Int := 24 - 12 * z - (Int.tdiv (mt_cc col s n 2 0 * 12 * (2 - 1)) 2 + Int.tdiv (mt_cc col s n 2 1 * 6 * (2 - 1)) 2) - (Int.tdiv (mt_cc col s n 3 0 * 12 * (3 - 1)) 3 + Int.tdiv (mt_cc col s n 3 1 * 6 * (3 - 1)) 3) - (Int.tdiv (mt_cc col s n 4 0 * 12 * (4 - 1)) 4 + Int.tdiv (mt_cc col s n 4 1 * 6 * (4 - 1)) 4) - (Int.tdiv (mt_cc col s n 6 0 * 12 * (6 - 1)) 6 + Int.tdiv (mt_cc col s n 6 1 * 6 * (6 - 1)) 6)
theorem pg_td_bd {x y : Int} (hx : 0 ≤ x) (hy : 1 ≤ y) : 0 ≤ Int.tdiv x y ∧ Int.tdiv x y ≤ x := by
  rw [pg_tdiv_nn hx]
  exact ⟨Int.ediv_nonneg hx (by omega), Int.ediv_le_self _ hx⟩
theorem pg_td_ab {x y M : Int} (hx : -M ≤ x ∧ x ≤ M) (hy : 1 ≤ y) : -M ≤ Int.tdiv x y ∧ Int.tdiv x y ≤ M := by
  rcases (show 0 ≤ x ∨ 0 ≤ -x by omega) with h | h
  · have := pg_td_bd h hy
    omega
  · have := pg_td_bd h hy
    rw [Int.neg_tdiv] at this
    omega
/-- counting where one set goes into another one to one -/
theorem pg_cn_inj {P Q : Nat → Prop} {N M : Nat} {f : Nat → Nat} (h1 : ∀ m, m < N → P m → f m < M ∧ Q (f m)) (h2 : ∀ a b, a < N → b < N → P a → P b → f a = f b → a = b) : pg_cn P N ≤ pg_cn Q M := by
  induction N generalizing Q with
  | zero => exact (pg_cn_bd Q M).1
  | succ N ih =>
    simp only [pg_cn]
    rcases Classical.em (P N) with hP | hP
    · rw [pg_b_t hP]
      obtain ⟨a1, a2⟩ := h1 N (by omega) hP
      have h3 := pg_cn_one (P := fun q => Q q ∧ q ≠ f N) (P' := Q) (z := f N) (m := M) a1 (fun h => h.2 rfl) (fun q hq => ⟨fun h => ⟨h, hq⟩, fun h => h.1⟩)
      rw [pg_b_t a2] at h3
      have h4 := ih (Q := fun q => Q q ∧ q ≠ f N) (fun m hm hp => ⟨(h1 m (by omega) hp).1, (h1 m (by omega) hp).2, fun he => by have := h2 m N (by omega) (by omega) hp hP he; omega⟩) (fun a b ha hb => h2 a b (by omega) (by omega))
      omega
    · rw [pg_b_f hP, Int.add_zero]
      exact ih (fun m hm => h1 m (by omega)) (fun a b ha hb => h2 a b (by omega) (by omega))
theorem mt_pt_inj {n x y x' y' : Int} (hx : 0 ≤ x ∧ x < n) (hx' : 0 ≤ x' ∧ x' < n) (h : mt_pt n x y = mt_pt n x' y') : x = x' ∧ y = y' := by
  unfold mt_pt at h
  have hn : n ≠ 0 := by omega
  have h1 : (x + y * n) % n = (x' + y' * n) % n := by rw [Int.add_comm, h, Int.add_comm]
  rw [Int.add_mul_emod_self_right, Int.add_mul_emod_self_right, Int.emod_eq_of_lt hx.1 hx.2, Int.emod_eq_of_lt hx'.1 hx'.2] at h1
  refine ⟨h1, ?_⟩
  rw [h1] at h
  have h2 : y * n = y' * n := by omega
  exact Int.eq_of_mul_eq_mul_right hn h2
theorem mt_mv {n m : Int} (hn : 1 ≤ n) : m = m / (n * n) * (n * n) + m / n % n * n + m % n := by
  have h1 := Int.emod_add_mul_ediv m n
  have h2 := Int.emod_add_mul_ediv (m / n) n
  rw [Int.ediv_ediv_of_nonneg (by omega)] at h2
  generalize m / (n * n) = A at *
  generalize m / n % n = B at *
  generalize m % n = C at *
  rw [← h2] at h1
  rw [← h1]
  grind
theorem mt_em {n a x y : Int} (h : (a + x) % n = (a + y) % n) (hx : 0 ≤ x ∧ x < n) (hy : 0 ≤ y ∧ y < n) : x = y := by
  have h1 : ((a + x) + -a) % n = ((a + y) + -a) % n := by rw [Int.add_emod, h, ← Int.add_emod]
  rw [show a + x + -a = x by omega, show a + y + -a = y by omega, Int.emod_eq_of_lt hx.1 hx.2, Int.emod_eq_of_lt hy.1 hy.2] at h1
  exact h1
/-- a place is fixed by one move at most of each k -/
theorem mt_fix_u {s n : Int} (hn : 1 ≤ n ∧ n ≤ 12) {i m m' : Nat} (h : mt_pm s n m i = i) (h' : mt_pm s n m' i = i) (hk : (m : Int) / (n * n) = (m' : Int) / (n * n)) : m = m' := by
  unfold mt_pm mt_pl mt_tg at h h'
  have h := h.trans h'.symm
  rw [← hk] at h
  have a : ∀ z : Int, 0 ≤ z % (6 * n) ∧ z % (6 * n) < 6 * n := fun z => mt_mod (by omega) z
  obtain ⟨h1, h2⟩ := mt_pt_inj (a _) (a _) h
  have b1 := mt_mod hn.1 ((m : Int) / n)
  have b2 := mt_mod hn.1 ((m' : Int) / n)
  have b3 := mt_mod hn.1 (m : Int)
  have b4 := mt_mod hn.1 (m' : Int)
  have h3 := mt_em h1 (by omega) (by omega)
  have h4 := mt_em h2 (by omega) (by omega)
  have e1 := mt_mv (n := n) (m := (m : Int)) hn.1
  have e2 := mt_mv (n := n) (m := (m' : Int)) hn.1
  rw [hk, show (m : Int) / n % n = (m' : Int) / n % n by omega, show (m : Int) % n = (m' : Int) % n by omega, ← e2] at e1
  omega
theorem mt_tu_le {s n : Int} (hs : s = 0 ∨ s = 1) (hn : 1 ≤ n ∧ n ≤ 12) (col : Nat → Int) (i : Nat) : 0 ≤ mt_tu col s n i ∧ mt_tu col s n i ≤ mt_rd s := by
  refine ⟨(mt_tu_bd hs hn col i).1, ?_⟩
  have hr := mt_rd_or hs
  have hN := mt_2rn hs hn
  have h := pg_cn_inj (P := mt_ft col s n i) (Q := fun _ => True) (N := (2 * mt_rd s * (n * n)).toNat) (M := (mt_rd s).toNat) (f := fun m => ((m : Int) / (n * n)).toNat) (fun m hm hp => ⟨by have h1 := hp.2.2; have h2 := mt_kof (s := s) hn.1 (show 0 ≤ (m : Int) ∧ (m : Int) < 2 * mt_rd s * (n * n) by omega); show ((m : Int) / (n * n)).toNat < _; omega, trivial⟩) (fun a b ha hb p q he => by
    have h1 := mt_kof (s := s) hn.1 (show 0 ≤ (a : Int) ∧ (a : Int) < 2 * mt_rd s * (n * n) by omega)
    have h2 := mt_kof (s := s) hn.1 (show 0 ≤ (b : Int) ∧ (b : Int) < 2 * mt_rd s * (n * n) by omega)
    have he2 : ((a : Int) / (n * n)).toNat = ((b : Int) / (n * n)).toNat := he
    exact mt_fix_u hn p.2.1 q.2.1 (by omega))
  have h1 := pg_cn_bd (fun _ => True) (mt_rd s).toNat
  unfold mt_tu
  omega
theorem mt_mx_le {s n : Int} (hs : s = 0 ∨ s = 1) (hn : 1 ≤ n ∧ n ≤ 12) (col : Nat → Int) (i : Nat) : 0 ≤ mt_mx col s n i ∧ mt_mx col s n i ≤ mt_rd s := by
  induction i with
  | zero =>
    have hr := mt_rd_or hs
    exact ⟨Int.le_refl _, by show (0 : Int) ≤ mt_rd s; omega⟩
  | succ i ih =>
    have := mt_tu_le hs hn col i
    simp only [mt_mx]
    split <;> omega
def mt_mw (col : Nat → Int) (s n : Int) : Prop := pg_cn (fun t => mt_mk col s n ((mt_rd s).toNat + t) (6 * n * (6 * n)).toNat) (mt_rd s).toNat < 2
/-- the kind, as the reference finds it -/
noncomputable def mt_kd (col : Nat → Int) (s n x : Int) : Int := if x = 6 then pg_if (mt_hm col s n (6 * n * (6 * n)).toNat) 17 16 else if x = 4 then pg_if (mt_hm col s n (6 * n * (6 * n)).toNat) (pg_if (mt_hp col s n 4 1 (6 * n * (6 * n)).toNat) 11 12) 10 else if x = 3 then pg_if (mt_hm col s n (6 * n * (6 * n)).toNat) (pg_if (mt_hp col s n 3 0 (6 * n * (6 * n)).toNat) 15 14) 13 else if x = 2 then pg_if (mt_hm col s n (6 * n * (6 * n)).toNat) (pg_if (mt_mw col s n) 7 (pg_if (mt_hp col s n 2 0 (6 * n * (6 * n)).toNat) 9 6)) (pg_if (mt_od col s n) 8 2) else pg_if (mt_hm col s n (6 * n * (6 * n)).toNat) (pg_if (mt_hg col s n) 5 3) (pg_if (mt_od col s n) 4 1)
/-- a strip up to row j0, column x0 -/
def mt_su (col : Nat → Int) (n y w tb bk u j0 x0 : Int) : Prop := ∀ j x : Int, 0 ≤ j → j < w → 0 ≤ x → x < n → (j < j0 ∨ (j = j0 ∧ x < x0)) → col (mt_pt n (x % n) ((y + j) % n)).toNat = col (mt_pt n ((if bk = 0 then u + x else u - x) % n) ((y + (if tb = 0 then j else w - 1 - j)) % n)).toNat
theorem mt_su_s {col : Nat → Int} {n y w tb bk u j x : Int} (hj : 0 ≤ j ∧ j < w) (hx : 0 ≤ x ∧ x < n) : mt_su col n y w tb bk u j (x + 1) ↔ mt_su col n y w tb bk u j x ∧ col (mt_pt n (x % n) ((y + j) % n)).toNat = col (mt_pt n ((if bk = 0 then u + x else u - x) % n) ((y + (if tb = 0 then j else w - 1 - j)) % n)).toNat := by
  constructor
  · intro h
    exact ⟨fun a b h1 h2 h3 h4 h5 => h a b h1 h2 h3 h4 (by omega), h j x hj.1 hj.2 hx.1 hx.2 (by omega)⟩
  · rintro ⟨h, h0⟩ a b h1 h2 h3 h4 h5
    rcases (show (a < j ∨ (a = j ∧ b < x)) ∨ (a = j ∧ b = x) by omega) with h6 | ⟨rfl, rfl⟩
    · exact h a b h1 h2 h3 h4 h6
    · exact h0
theorem mt_su_n {col : Nat → Int} {n y w tb bk u j : Int} : mt_su col n y w tb bk u (j + 1) 0 ↔ mt_su col n y w tb bk u j n := by
  constructor
  · intro h a b h1 h2 h3 h4 h5; exact h a b h1 h2 h3 h4 (by omega)
  · intro h a b h1 h2 h3 h4 h5; exact h a b h1 h2 h3 h4 (by omega)
def mt_sv (col : Nat → Int) (n y w tb bk : Int) (m : Nat) : Prop := ∃ u : Nat, u < m ∧ mt_st col n y w tb bk u
theorem mt_sv_s {col : Nat → Int} {n y w tb bk : Int} {m : Nat} : mt_sv col n y w tb bk (m + 1) ↔ mt_sv col n y w tb bk m ∨ mt_st col n y w tb bk m := by
  constructor
  · rintro ⟨i, h1, h2⟩
    rcases (show i < m ∨ i = m by omega) with h | rfl
    · exact Or.inl ⟨i, h, h2⟩
    · exact Or.inr h2
  · rintro (⟨i, h1, h2⟩ | h)
    · exact ⟨i, by omega, h2⟩
    · exact ⟨m, by omega, h⟩
theorem mt_sv_x {col : Nat → Int} {n y w tb bk : Int} : mt_sv col n y w tb bk n.toNat ↔ mt_sx col n y w tb bk := by
  constructor
  · rintro ⟨u, h1, h2⟩; exact ⟨u, by omega, by omega, h2⟩
  · rintro ⟨u, h1, h2, h3⟩
    exact ⟨u.toNat, by omega, by rw [show ((u.toNat : Nat) : Int) = u by omega]; exact h3⟩
set_option maxRecDepth 20000 in
set_option maxHeartbeats 8000000 in
theorem re_left {g : pg_H} {s n : Int} (hB : rm_B g s n) (hS : ri_S g s n) (hP : ri_P g s n) : pg_Sem false pm_T_left [.inr (.inr 0)] (rm g s n) (fun r h' => ∃ (g' : pg_H) (z : Int), h' = rm g' s n ∧ rf [15] [15, 16, 23, 24] g g' ∧ ri_ec (g 1) s n z ∧ r = some (.inl (Int.tdiv (mt_lf (g 1) s n z) 12)) ∧ (-2000000 ≤ Int.tdiv (mt_lf (g 1) s n z) 12 ∧ Int.tdiv (mt_lf (g 1) s n z) 12 ≤ 2000000)) := by
  obtain ⟨hs, hn, hT⟩ := id hB
  obtain ⟨hn1, hn2⟩ := id hn
  have hr := mt_rd_or hs
  have h66 := mt_66 hn1 hn2
  have hN := mt_2rn hs hn
  refine pg_Sem_of pm_T_left_f rfl ?_
  refine pg_ca 3 (L := []) (Mc := pm_T_countEdges) (as := [.inr (.inr 0)]) (h0 := rm g s n) (pc := 8) (lv := [(0, .inr (.inr 0))]) (rest := [.inl 12, .inl 24]) rfl trivial (re_countEdges (g := g) hB hS hP) ?_
  intro r_1 h_1 e_1; obtain ⟨g23, z23, eh_, ef23, er_, hz23, hec23⟩ := e_1; rw [er_, eh_]; have hB23 := rm_B_fr hB ef23 (by decide); have hS23 := ri_S_fr hS ef23 (by decide); have hP23 := ri_P_fr hP ef23 (by decide)
  have e1_23 : g23 1 = g 1 := ef23.1 1 (by decide) (by decide)
  have td20 := pg_td_bd (x := mt_cc (g23 1) s n 2 0 * 12 * (2 - 1)) (y := 2) (by have := mt_cc_bd (s := s) hn (g23 1) 2 0; omega) (by decide)
  have td21 := pg_td_bd (x := mt_cc (g23 1) s n 2 1 * 6 * (2 - 1)) (y := 2) (by have := mt_cc_bd (s := s) hn (g23 1) 2 1; omega) (by decide)
  have td30 := pg_td_bd (x := mt_cc (g23 1) s n 3 0 * 12 * (3 - 1)) (y := 3) (by have := mt_cc_bd (s := s) hn (g23 1) 3 0; omega) (by decide)
  have td31 := pg_td_bd (x := mt_cc (g23 1) s n 3 1 * 6 * (3 - 1)) (y := 3) (by have := mt_cc_bd (s := s) hn (g23 1) 3 1; omega) (by decide)
  have td40 := pg_td_bd (x := mt_cc (g23 1) s n 4 0 * 12 * (4 - 1)) (y := 4) (by have := mt_cc_bd (s := s) hn (g23 1) 4 0; omega) (by decide)
  have td41 := pg_td_bd (x := mt_cc (g23 1) s n 4 1 * 6 * (4 - 1)) (y := 4) (by have := mt_cc_bd (s := s) hn (g23 1) 4 1; omega) (by decide)
  have td60 := pg_td_bd (x := mt_cc (g23 1) s n 6 0 * 12 * (6 - 1)) (y := 6) (by have := mt_cc_bd (s := s) hn (g23 1) 6 0; omega) (by decide)
  have td61 := pg_td_bd (x := mt_cc (g23 1) s n 6 1 * 6 * (6 - 1)) (y := 6) (by have := mt_cc_bd (s := s) hn (g23 1) 6 1; omega) (by decide)
  have cb20 := mt_cc_bd (s := s) hn (g23 1) 2 0
  have cb21 := mt_cc_bd (s := s) hn (g23 1) 2 1
  have cb30 := mt_cc_bd (s := s) hn (g23 1) 3 0
  have cb31 := mt_cc_bd (s := s) hn (g23 1) 3 1
  have cb40 := mt_cc_bd (s := s) hn (g23 1) 4 0
  have cb41 := mt_cc_bd (s := s) hn (g23 1) 4 1
  have cb60 := mt_cc_bd (s := s) hn (g23 1) 6 0
  have cb61 := mt_cc_bd (s := s) hn (g23 1) 6 1
  refine pg_br 7 (L := []) (P := pg_inR 2 ∧ pg_inR 7) (c := 7 ≤ 2) (st1 := (64, [(0, .inr (.inr 0)), (1, .inl (24 - (12 * z23))), (2, .inl 2)], [], rm g23 s n)) (st2 := (19, [(0, .inr (.inr 0)), (1, .inl (24 - (12 * z23))), (2, .inl 2)], [], rm g23 s n)) rfl trivial ⟨⟨by decide, by decide⟩, ⟨by decide, by decide⟩⟩ (fun c_16_1 => ?_) (fun c_16_1 => ?_)
  · exact absurd c_16_1 (by decide)
  · refine pg_br 2 (L := []) (P := pg_inR 2 ∧ pg_inR 5) (c := 2 = 5) (st1 := (58, [(0, .inr (.inr 0)), (1, .inl (24 - (12 * z23))), (2, .inl 2)], [], rm g23 s n)) (st2 := (24, [(0, .inr (.inr 0)), (1, .inl (24 - (12 * z23))), (2, .inl 2)], [], rm g23 s n)) rfl trivial ⟨⟨by decide, by decide⟩, ⟨by decide, by decide⟩⟩ (fun c_21_2 => ?_) (fun c_21_2 => ?_)
    · exact absurd c_21_2 (by decide)
    · refine pg_ca 4 (L := []) (Mc := pm_T_countClasses) (as := [.inr (.inr 0), .inl 2, .inl 0]) (h0 := rm g23 s n) (pc := 31) (lv := [(0, .inr (.inr 0)), (1, .inl (24 - (12 * z23))), (2, .inl 2)]) (rest := [.inl (24 - (12 * z23))]) rfl trivial (re_countClasses (g := g23) hB23 hS23 hP23 2 0 ⟨by decide, by decide⟩ (by omega)) ?_
      intro r_1 h_1 e_1; rw [e_1.1, e_1.2]; have hcc_282 := mt_cc_bd (s := s) hn (g23 1) 2 0; have hct_282 := pg_td_bd (x := mt_cc (g23 1) s n 2 0 * 1) (y := 1) (by omega) (by decide)
      refine pg_ca 11 (L := [2 ≠ 0 ∧ pg_inR (((mt_cc (g23 1) s n 2 0) * 12) * (2 - 1)) ∧ pg_inR 2]) (Mc := pm_T_countClasses) (as := [.inr (.inr 0), .inl 2, .inl 1]) (h0 := rm g23 s n) (pc := 46) (lv := [(0, .inr (.inr 0)), (1, .inl (24 - (12 * z23))), (2, .inl 2)]) (rest := [.inl (Int.tdiv (((mt_cc (g23 1) s n 2 0) * 12) * (2 - 1)) 2), .inl (24 - (12 * z23))]) rfl ⟨by omega, ⟨by omega, by omega⟩, ⟨by omega, by omega⟩⟩ (re_countClasses (g := g23) hB23 hS23 hP23 2 1 ⟨by decide, by decide⟩ (by omega)) ?_
      intro r_1 h_1 e_1; rw [e_1.1, e_1.2]; have hcc_432 := mt_cc_bd (s := s) hn (g23 1) 2 1; have hct_432 := pg_td_bd (x := mt_cc (g23 1) s n 2 1 * 1) (y := 1) (by omega) (by decide)
      refine pg_br 15 (L := [2 ≠ 0 ∧ pg_inR (((mt_cc (g23 1) s n 2 1) * 6) * (2 - 1)) ∧ pg_inR 2]) (P := pg_inR 3 ∧ pg_inR 7) (c := 7 ≤ 3) (st1 := (64, [(0, .inr (.inr 0)), (1, .inl ((24 - (12 * z23)) - ((Int.tdiv (((mt_cc (g23 1) s n 2 0) * 12) * (2 - 1)) 2) + (Int.tdiv (((mt_cc (g23 1) s n 2 1) * 6) * (2 - 1)) 2)))), (2, .inl 3)], [], rm g23 s n)) (st2 := (19, [(0, .inr (.inr 0)), (1, .inl ((24 - (12 * z23)) - ((Int.tdiv (((mt_cc (g23 1) s n 2 0) * 12) * (2 - 1)) 2) + (Int.tdiv (((mt_cc (g23 1) s n 2 1) * 6) * (2 - 1)) 2)))), (2, .inl 3)], [], rm g23 s n)) rfl ⟨by omega, ⟨by omega, by omega⟩, ⟨by omega, by omega⟩⟩ ⟨⟨by decide, by decide⟩, ⟨by decide, by decide⟩⟩ (fun c_16_3 => ?_) (fun c_16_3 => ?_)
      · exact absurd c_16_3 (by decide)
      · refine pg_br 2 (L := []) (P := pg_inR 3 ∧ pg_inR 5) (c := 3 = 5) (st1 := (58, [(0, .inr (.inr 0)), (1, .inl ((24 - (12 * z23)) - ((Int.tdiv (((mt_cc (g23 1) s n 2 0) * 12) * (2 - 1)) 2) + (Int.tdiv (((mt_cc (g23 1) s n 2 1) * 6) * (2 - 1)) 2)))), (2, .inl 3)], [], rm g23 s n)) (st2 := (24, [(0, .inr (.inr 0)), (1, .inl ((24 - (12 * z23)) - ((Int.tdiv (((mt_cc (g23 1) s n 2 0) * 12) * (2 - 1)) 2) + (Int.tdiv (((mt_cc (g23 1) s n 2 1) * 6) * (2 - 1)) 2)))), (2, .inl 3)], [], rm g23 s n)) rfl trivial ⟨⟨by decide, by decide⟩, ⟨by decide, by decide⟩⟩ (fun c_21_4 => ?_) (fun c_21_4 => ?_)
        · exact absurd c_21_4 (by decide)
        · refine pg_ca 4 (L := []) (Mc := pm_T_countClasses) (as := [.inr (.inr 0), .inl 3, .inl 0]) (h0 := rm g23 s n) (pc := 31) (lv := [(0, .inr (.inr 0)), (1, .inl ((24 - (12 * z23)) - ((Int.tdiv (((mt_cc (g23 1) s n 2 0) * 12) * (2 - 1)) 2) + (Int.tdiv (((mt_cc (g23 1) s n 2 1) * 6) * (2 - 1)) 2)))), (2, .inl 3)]) (rest := [.inl ((24 - (12 * z23)) - ((Int.tdiv (((mt_cc (g23 1) s n 2 0) * 12) * (2 - 1)) 2) + (Int.tdiv (((mt_cc (g23 1) s n 2 1) * 6) * (2 - 1)) 2)))]) rfl trivial (re_countClasses (g := g23) hB23 hS23 hP23 3 0 ⟨by decide, by decide⟩ (by omega)) ?_
          intro r_1 h_1 e_1; rw [e_1.1, e_1.2]; have hcc_283 := mt_cc_bd (s := s) hn (g23 1) 3 0; have hct_283 := pg_td_bd (x := mt_cc (g23 1) s n 3 0 * 1) (y := 1) (by omega) (by decide)
          refine pg_ca 11 (L := [3 ≠ 0 ∧ pg_inR (((mt_cc (g23 1) s n 3 0) * 12) * (3 - 1)) ∧ pg_inR 3]) (Mc := pm_T_countClasses) (as := [.inr (.inr 0), .inl 3, .inl 1]) (h0 := rm g23 s n) (pc := 46) (lv := [(0, .inr (.inr 0)), (1, .inl ((24 - (12 * z23)) - ((Int.tdiv (((mt_cc (g23 1) s n 2 0) * 12) * (2 - 1)) 2) + (Int.tdiv (((mt_cc (g23 1) s n 2 1) * 6) * (2 - 1)) 2)))), (2, .inl 3)]) (rest := [.inl (Int.tdiv (((mt_cc (g23 1) s n 3 0) * 12) * (3 - 1)) 3), .inl ((24 - (12 * z23)) - ((Int.tdiv (((mt_cc (g23 1) s n 2 0) * 12) * (2 - 1)) 2) + (Int.tdiv (((mt_cc (g23 1) s n 2 1) * 6) * (2 - 1)) 2)))]) rfl ⟨by omega, ⟨by omega, by omega⟩, ⟨by omega, by omega⟩⟩ (re_countClasses (g := g23) hB23 hS23 hP23 3 1 ⟨by decide, by decide⟩ (by omega)) ?_
          intro r_1 h_1 e_1; rw [e_1.1, e_1.2]; have hcc_433 := mt_cc_bd (s := s) hn (g23 1) 3 1; have hct_433 := pg_td_bd (x := mt_cc (g23 1) s n 3 1 * 1) (y := 1) (by omega) (by decide)
          refine pg_br 15 (L := [3 ≠ 0 ∧ pg_inR (((mt_cc (g23 1) s n 3 1) * 6) * (3 - 1)) ∧ pg_inR 3]) (P := pg_inR 4 ∧ pg_inR 7) (c := 7 ≤ 4) (st1 := (64, [(0, .inr (.inr 0)), (1, .inl (((24 - (12 * z23)) - ((Int.tdiv (((mt_cc (g23 1) s n 2 0) * 12) * (2 - 1)) 2) + (Int.tdiv (((mt_cc (g23 1) s n 2 1) * 6) * (2 - 1)) 2))) - ((Int.tdiv (((mt_cc (g23 1) s n 3 0) * 12) * (3 - 1)) 3) + (Int.tdiv (((mt_cc (g23 1) s n 3 1) * 6) * (3 - 1)) 3)))), (2, .inl 4)], [], rm g23 s n)) (st2 := (19, [(0, .inr (.inr 0)), (1, .inl (((24 - (12 * z23)) - ((Int.tdiv (((mt_cc (g23 1) s n 2 0) * 12) * (2 - 1)) 2) + (Int.tdiv (((mt_cc (g23 1) s n 2 1) * 6) * (2 - 1)) 2))) - ((Int.tdiv (((mt_cc (g23 1) s n 3 0) * 12) * (3 - 1)) 3) + (Int.tdiv (((mt_cc (g23 1) s n 3 1) * 6) * (3 - 1)) 3)))), (2, .inl 4)], [], rm g23 s n)) rfl ⟨by omega, ⟨by omega, by omega⟩, ⟨by omega, by omega⟩⟩ ⟨⟨by decide, by decide⟩, ⟨by decide, by decide⟩⟩ (fun c_16_5 => ?_) (fun c_16_5 => ?_)
          · exact absurd c_16_5 (by decide)
          · refine pg_br 2 (L := []) (P := pg_inR 4 ∧ pg_inR 5) (c := 4 = 5) (st1 := (58, [(0, .inr (.inr 0)), (1, .inl (((24 - (12 * z23)) - ((Int.tdiv (((mt_cc (g23 1) s n 2 0) * 12) * (2 - 1)) 2) + (Int.tdiv (((mt_cc (g23 1) s n 2 1) * 6) * (2 - 1)) 2))) - ((Int.tdiv (((mt_cc (g23 1) s n 3 0) * 12) * (3 - 1)) 3) + (Int.tdiv (((mt_cc (g23 1) s n 3 1) * 6) * (3 - 1)) 3)))), (2, .inl 4)], [], rm g23 s n)) (st2 := (24, [(0, .inr (.inr 0)), (1, .inl (((24 - (12 * z23)) - ((Int.tdiv (((mt_cc (g23 1) s n 2 0) * 12) * (2 - 1)) 2) + (Int.tdiv (((mt_cc (g23 1) s n 2 1) * 6) * (2 - 1)) 2))) - ((Int.tdiv (((mt_cc (g23 1) s n 3 0) * 12) * (3 - 1)) 3) + (Int.tdiv (((mt_cc (g23 1) s n 3 1) * 6) * (3 - 1)) 3)))), (2, .inl 4)], [], rm g23 s n)) rfl trivial ⟨⟨by decide, by decide⟩, ⟨by decide, by decide⟩⟩ (fun c_21_6 => ?_) (fun c_21_6 => ?_)
            · exact absurd c_21_6 (by decide)
            · refine pg_ca 4 (L := []) (Mc := pm_T_countClasses) (as := [.inr (.inr 0), .inl 4, .inl 0]) (h0 := rm g23 s n) (pc := 31) (lv := [(0, .inr (.inr 0)), (1, .inl (((24 - (12 * z23)) - ((Int.tdiv (((mt_cc (g23 1) s n 2 0) * 12) * (2 - 1)) 2) + (Int.tdiv (((mt_cc (g23 1) s n 2 1) * 6) * (2 - 1)) 2))) - ((Int.tdiv (((mt_cc (g23 1) s n 3 0) * 12) * (3 - 1)) 3) + (Int.tdiv (((mt_cc (g23 1) s n 3 1) * 6) * (3 - 1)) 3)))), (2, .inl 4)]) (rest := [.inl (((24 - (12 * z23)) - ((Int.tdiv (((mt_cc (g23 1) s n 2 0) * 12) * (2 - 1)) 2) + (Int.tdiv (((mt_cc (g23 1) s n 2 1) * 6) * (2 - 1)) 2))) - ((Int.tdiv (((mt_cc (g23 1) s n 3 0) * 12) * (3 - 1)) 3) + (Int.tdiv (((mt_cc (g23 1) s n 3 1) * 6) * (3 - 1)) 3)))]) rfl trivial (re_countClasses (g := g23) hB23 hS23 hP23 4 0 ⟨by decide, by decide⟩ (by omega)) ?_
              intro r_1 h_1 e_1; rw [e_1.1, e_1.2]; have hcc_284 := mt_cc_bd (s := s) hn (g23 1) 4 0; have hct_284 := pg_td_bd (x := mt_cc (g23 1) s n 4 0 * 1) (y := 1) (by omega) (by decide)
              refine pg_ca 11 (L := [4 ≠ 0 ∧ pg_inR (((mt_cc (g23 1) s n 4 0) * 12) * (4 - 1)) ∧ pg_inR 4]) (Mc := pm_T_countClasses) (as := [.inr (.inr 0), .inl 4, .inl 1]) (h0 := rm g23 s n) (pc := 46) (lv := [(0, .inr (.inr 0)), (1, .inl (((24 - (12 * z23)) - ((Int.tdiv (((mt_cc (g23 1) s n 2 0) * 12) * (2 - 1)) 2) + (Int.tdiv (((mt_cc (g23 1) s n 2 1) * 6) * (2 - 1)) 2))) - ((Int.tdiv (((mt_cc (g23 1) s n 3 0) * 12) * (3 - 1)) 3) + (Int.tdiv (((mt_cc (g23 1) s n 3 1) * 6) * (3 - 1)) 3)))), (2, .inl 4)]) (rest := [.inl (Int.tdiv (((mt_cc (g23 1) s n 4 0) * 12) * (4 - 1)) 4), .inl (((24 - (12 * z23)) - ((Int.tdiv (((mt_cc (g23 1) s n 2 0) * 12) * (2 - 1)) 2) + (Int.tdiv (((mt_cc (g23 1) s n 2 1) * 6) * (2 - 1)) 2))) - ((Int.tdiv (((mt_cc (g23 1) s n 3 0) * 12) * (3 - 1)) 3) + (Int.tdiv (((mt_cc (g23 1) s n 3 1) * 6) * (3 - 1)) 3)))]) rfl ⟨by omega, ⟨by omega, by omega⟩, ⟨by omega, by omega⟩⟩ (re_countClasses (g := g23) hB23 hS23 hP23 4 1 ⟨by decide, by decide⟩ (by omega)) ?_
              intro r_1 h_1 e_1; rw [e_1.1, e_1.2]; have hcc_434 := mt_cc_bd (s := s) hn (g23 1) 4 1; have hct_434 := pg_td_bd (x := mt_cc (g23 1) s n 4 1 * 1) (y := 1) (by omega) (by decide)
              refine pg_br 15 (L := [4 ≠ 0 ∧ pg_inR (((mt_cc (g23 1) s n 4 1) * 6) * (4 - 1)) ∧ pg_inR 4]) (P := pg_inR 5 ∧ pg_inR 7) (c := 7 ≤ 5) (st1 := (64, [(0, .inr (.inr 0)), (1, .inl ((((24 - (12 * z23)) - ((Int.tdiv (((mt_cc (g23 1) s n 2 0) * 12) * (2 - 1)) 2) + (Int.tdiv (((mt_cc (g23 1) s n 2 1) * 6) * (2 - 1)) 2))) - ((Int.tdiv (((mt_cc (g23 1) s n 3 0) * 12) * (3 - 1)) 3) + (Int.tdiv (((mt_cc (g23 1) s n 3 1) * 6) * (3 - 1)) 3))) - ((Int.tdiv (((mt_cc (g23 1) s n 4 0) * 12) * (4 - 1)) 4) + (Int.tdiv (((mt_cc (g23 1) s n 4 1) * 6) * (4 - 1)) 4)))), (2, .inl 5)], [], rm g23 s n)) (st2 := (19, [(0, .inr (.inr 0)), (1, .inl ((((24 - (12 * z23)) - ((Int.tdiv (((mt_cc (g23 1) s n 2 0) * 12) * (2 - 1)) 2) + (Int.tdiv (((mt_cc (g23 1) s n 2 1) * 6) * (2 - 1)) 2))) - ((Int.tdiv (((mt_cc (g23 1) s n 3 0) * 12) * (3 - 1)) 3) + (Int.tdiv (((mt_cc (g23 1) s n 3 1) * 6) * (3 - 1)) 3))) - ((Int.tdiv (((mt_cc (g23 1) s n 4 0) * 12) * (4 - 1)) 4) + (Int.tdiv (((mt_cc (g23 1) s n 4 1) * 6) * (4 - 1)) 4)))), (2, .inl 5)], [], rm g23 s n)) rfl ⟨by omega, ⟨by omega, by omega⟩, ⟨by omega, by omega⟩⟩ ⟨⟨by decide, by decide⟩, ⟨by decide, by decide⟩⟩ (fun c_16_7 => ?_) (fun c_16_7 => ?_)
              · exact absurd c_16_7 (by decide)
              · refine pg_br 2 (L := []) (P := pg_inR 5 ∧ pg_inR 5) (c := 5 = 5) (st1 := (58, [(0, .inr (.inr 0)), (1, .inl ((((24 - (12 * z23)) - ((Int.tdiv (((mt_cc (g23 1) s n 2 0) * 12) * (2 - 1)) 2) + (Int.tdiv (((mt_cc (g23 1) s n 2 1) * 6) * (2 - 1)) 2))) - ((Int.tdiv (((mt_cc (g23 1) s n 3 0) * 12) * (3 - 1)) 3) + (Int.tdiv (((mt_cc (g23 1) s n 3 1) * 6) * (3 - 1)) 3))) - ((Int.tdiv (((mt_cc (g23 1) s n 4 0) * 12) * (4 - 1)) 4) + (Int.tdiv (((mt_cc (g23 1) s n 4 1) * 6) * (4 - 1)) 4)))), (2, .inl 5)], [], rm g23 s n)) (st2 := (24, [(0, .inr (.inr 0)), (1, .inl ((((24 - (12 * z23)) - ((Int.tdiv (((mt_cc (g23 1) s n 2 0) * 12) * (2 - 1)) 2) + (Int.tdiv (((mt_cc (g23 1) s n 2 1) * 6) * (2 - 1)) 2))) - ((Int.tdiv (((mt_cc (g23 1) s n 3 0) * 12) * (3 - 1)) 3) + (Int.tdiv (((mt_cc (g23 1) s n 3 1) * 6) * (3 - 1)) 3))) - ((Int.tdiv (((mt_cc (g23 1) s n 4 0) * 12) * (4 - 1)) 4) + (Int.tdiv (((mt_cc (g23 1) s n 4 1) * 6) * (4 - 1)) 4)))), (2, .inl 5)], [], rm g23 s n)) rfl trivial ⟨⟨by decide, by decide⟩, ⟨by decide, by decide⟩⟩ (fun c_21_8 => ?_) (fun c_21_8 => ?_)
                · refine pg_br 4 (L := []) (P := pg_inR 6 ∧ pg_inR 7) (c := 7 ≤ 6) (st1 := (64, [(0, .inr (.inr 0)), (1, .inl ((((24 - (12 * z23)) - ((Int.tdiv (((mt_cc (g23 1) s n 2 0) * 12) * (2 - 1)) 2) + (Int.tdiv (((mt_cc (g23 1) s n 2 1) * 6) * (2 - 1)) 2))) - ((Int.tdiv (((mt_cc (g23 1) s n 3 0) * 12) * (3 - 1)) 3) + (Int.tdiv (((mt_cc (g23 1) s n 3 1) * 6) * (3 - 1)) 3))) - ((Int.tdiv (((mt_cc (g23 1) s n 4 0) * 12) * (4 - 1)) 4) + (Int.tdiv (((mt_cc (g23 1) s n 4 1) * 6) * (4 - 1)) 4)))), (2, .inl 6)], [], rm g23 s n)) (st2 := (19, [(0, .inr (.inr 0)), (1, .inl ((((24 - (12 * z23)) - ((Int.tdiv (((mt_cc (g23 1) s n 2 0) * 12) * (2 - 1)) 2) + (Int.tdiv (((mt_cc (g23 1) s n 2 1) * 6) * (2 - 1)) 2))) - ((Int.tdiv (((mt_cc (g23 1) s n 3 0) * 12) * (3 - 1)) 3) + (Int.tdiv (((mt_cc (g23 1) s n 3 1) * 6) * (3 - 1)) 3))) - ((Int.tdiv (((mt_cc (g23 1) s n 4 0) * 12) * (4 - 1)) 4) + (Int.tdiv (((mt_cc (g23 1) s n 4 1) * 6) * (4 - 1)) 4)))), (2, .inl 6)], [], rm g23 s n)) rfl trivial ⟨⟨by decide, by decide⟩, ⟨by decide, by decide⟩⟩ (fun c_16_9 => ?_) (fun c_16_9 => ?_)
                  · exact absurd c_16_9 (by decide)
                  · refine pg_br 2 (L := []) (P := pg_inR 6 ∧ pg_inR 5) (c := 6 = 5) (st1 := (58, [(0, .inr (.inr 0)), (1, .inl ((((24 - (12 * z23)) - ((Int.tdiv (((mt_cc (g23 1) s n 2 0) * 12) * (2 - 1)) 2) + (Int.tdiv (((mt_cc (g23 1) s n 2 1) * 6) * (2 - 1)) 2))) - ((Int.tdiv (((mt_cc (g23 1) s n 3 0) * 12) * (3 - 1)) 3) + (Int.tdiv (((mt_cc (g23 1) s n 3 1) * 6) * (3 - 1)) 3))) - ((Int.tdiv (((mt_cc (g23 1) s n 4 0) * 12) * (4 - 1)) 4) + (Int.tdiv (((mt_cc (g23 1) s n 4 1) * 6) * (4 - 1)) 4)))), (2, .inl 6)], [], rm g23 s n)) (st2 := (24, [(0, .inr (.inr 0)), (1, .inl ((((24 - (12 * z23)) - ((Int.tdiv (((mt_cc (g23 1) s n 2 0) * 12) * (2 - 1)) 2) + (Int.tdiv (((mt_cc (g23 1) s n 2 1) * 6) * (2 - 1)) 2))) - ((Int.tdiv (((mt_cc (g23 1) s n 3 0) * 12) * (3 - 1)) 3) + (Int.tdiv (((mt_cc (g23 1) s n 3 1) * 6) * (3 - 1)) 3))) - ((Int.tdiv (((mt_cc (g23 1) s n 4 0) * 12) * (4 - 1)) 4) + (Int.tdiv (((mt_cc (g23 1) s n 4 1) * 6) * (4 - 1)) 4)))), (2, .inl 6)], [], rm g23 s n)) rfl trivial ⟨⟨by decide, by decide⟩, ⟨by decide, by decide⟩⟩ (fun c_21_10 => ?_) (fun c_21_10 => ?_)
                    · exact absurd c_21_10 (by decide)
                    · refine pg_ca 4 (L := []) (Mc := pm_T_countClasses) (as := [.inr (.inr 0), .inl 6, .inl 0]) (h0 := rm g23 s n) (pc := 31) (lv := [(0, .inr (.inr 0)), (1, .inl ((((24 - (12 * z23)) - ((Int.tdiv (((mt_cc (g23 1) s n 2 0) * 12) * (2 - 1)) 2) + (Int.tdiv (((mt_cc (g23 1) s n 2 1) * 6) * (2 - 1)) 2))) - ((Int.tdiv (((mt_cc (g23 1) s n 3 0) * 12) * (3 - 1)) 3) + (Int.tdiv (((mt_cc (g23 1) s n 3 1) * 6) * (3 - 1)) 3))) - ((Int.tdiv (((mt_cc (g23 1) s n 4 0) * 12) * (4 - 1)) 4) + (Int.tdiv (((mt_cc (g23 1) s n 4 1) * 6) * (4 - 1)) 4)))), (2, .inl 6)]) (rest := [.inl ((((24 - (12 * z23)) - ((Int.tdiv (((mt_cc (g23 1) s n 2 0) * 12) * (2 - 1)) 2) + (Int.tdiv (((mt_cc (g23 1) s n 2 1) * 6) * (2 - 1)) 2))) - ((Int.tdiv (((mt_cc (g23 1) s n 3 0) * 12) * (3 - 1)) 3) + (Int.tdiv (((mt_cc (g23 1) s n 3 1) * 6) * (3 - 1)) 3))) - ((Int.tdiv (((mt_cc (g23 1) s n 4 0) * 12) * (4 - 1)) 4) + (Int.tdiv (((mt_cc (g23 1) s n 4 1) * 6) * (4 - 1)) 4)))]) rfl trivial (re_countClasses (g := g23) hB23 hS23 hP23 6 0 ⟨by decide, by decide⟩ (by omega)) ?_
                      intro r_1 h_1 e_1; rw [e_1.1, e_1.2]; have hcc_286 := mt_cc_bd (s := s) hn (g23 1) 6 0; have hct_286 := pg_td_bd (x := mt_cc (g23 1) s n 6 0 * 1) (y := 1) (by omega) (by decide)
                      refine pg_ca 11 (L := [6 ≠ 0 ∧ pg_inR (((mt_cc (g23 1) s n 6 0) * 12) * (6 - 1)) ∧ pg_inR 6]) (Mc := pm_T_countClasses) (as := [.inr (.inr 0), .inl 6, .inl 1]) (h0 := rm g23 s n) (pc := 46) (lv := [(0, .inr (.inr 0)), (1, .inl ((((24 - (12 * z23)) - ((Int.tdiv (((mt_cc (g23 1) s n 2 0) * 12) * (2 - 1)) 2) + (Int.tdiv (((mt_cc (g23 1) s n 2 1) * 6) * (2 - 1)) 2))) - ((Int.tdiv (((mt_cc (g23 1) s n 3 0) * 12) * (3 - 1)) 3) + (Int.tdiv (((mt_cc (g23 1) s n 3 1) * 6) * (3 - 1)) 3))) - ((Int.tdiv (((mt_cc (g23 1) s n 4 0) * 12) * (4 - 1)) 4) + (Int.tdiv (((mt_cc (g23 1) s n 4 1) * 6) * (4 - 1)) 4)))), (2, .inl 6)]) (rest := [.inl (Int.tdiv (((mt_cc (g23 1) s n 6 0) * 12) * (6 - 1)) 6), .inl ((((24 - (12 * z23)) - ((Int.tdiv (((mt_cc (g23 1) s n 2 0) * 12) * (2 - 1)) 2) + (Int.tdiv (((mt_cc (g23 1) s n 2 1) * 6) * (2 - 1)) 2))) - ((Int.tdiv (((mt_cc (g23 1) s n 3 0) * 12) * (3 - 1)) 3) + (Int.tdiv (((mt_cc (g23 1) s n 3 1) * 6) * (3 - 1)) 3))) - ((Int.tdiv (((mt_cc (g23 1) s n 4 0) * 12) * (4 - 1)) 4) + (Int.tdiv (((mt_cc (g23 1) s n 4 1) * 6) * (4 - 1)) 4)))]) rfl ⟨by omega, ⟨by omega, by omega⟩, ⟨by omega, by omega⟩⟩ (re_countClasses (g := g23) hB23 hS23 hP23 6 1 ⟨by decide, by decide⟩ (by omega)) ?_
                      intro r_1 h_1 e_1; rw [e_1.1, e_1.2]; have hcc_436 := mt_cc_bd (s := s) hn (g23 1) 6 1; have hct_436 := pg_td_bd (x := mt_cc (g23 1) s n 6 1 * 1) (y := 1) (by omega) (by decide)
                      refine pg_br 15 (L := [6 ≠ 0 ∧ pg_inR (((mt_cc (g23 1) s n 6 1) * 6) * (6 - 1)) ∧ pg_inR 6]) (P := pg_inR 7 ∧ pg_inR 7) (c := 7 ≤ 7) (st1 := (64, [(0, .inr (.inr 0)), (1, .inl (((((24 - (12 * z23)) - ((Int.tdiv (((mt_cc (g23 1) s n 2 0) * 12) * (2 - 1)) 2) + (Int.tdiv (((mt_cc (g23 1) s n 2 1) * 6) * (2 - 1)) 2))) - ((Int.tdiv (((mt_cc (g23 1) s n 3 0) * 12) * (3 - 1)) 3) + (Int.tdiv (((mt_cc (g23 1) s n 3 1) * 6) * (3 - 1)) 3))) - ((Int.tdiv (((mt_cc (g23 1) s n 4 0) * 12) * (4 - 1)) 4) + (Int.tdiv (((mt_cc (g23 1) s n 4 1) * 6) * (4 - 1)) 4))) - ((Int.tdiv (((mt_cc (g23 1) s n 6 0) * 12) * (6 - 1)) 6) + (Int.tdiv (((mt_cc (g23 1) s n 6 1) * 6) * (6 - 1)) 6)))), (2, .inl 7)], [], rm g23 s n)) (st2 := (19, [(0, .inr (.inr 0)), (1, .inl (((((24 - (12 * z23)) - ((Int.tdiv (((mt_cc (g23 1) s n 2 0) * 12) * (2 - 1)) 2) + (Int.tdiv (((mt_cc (g23 1) s n 2 1) * 6) * (2 - 1)) 2))) - ((Int.tdiv (((mt_cc (g23 1) s n 3 0) * 12) * (3 - 1)) 3) + (Int.tdiv (((mt_cc (g23 1) s n 3 1) * 6) * (3 - 1)) 3))) - ((Int.tdiv (((mt_cc (g23 1) s n 4 0) * 12) * (4 - 1)) 4) + (Int.tdiv (((mt_cc (g23 1) s n 4 1) * 6) * (4 - 1)) 4))) - ((Int.tdiv (((mt_cc (g23 1) s n 6 0) * 12) * (6 - 1)) 6) + (Int.tdiv (((mt_cc (g23 1) s n 6 1) * 6) * (6 - 1)) 6)))), (2, .inl 7)], [], rm g23 s n)) rfl ⟨by omega, ⟨by omega, by omega⟩, ⟨by omega, by omega⟩⟩ ⟨⟨by decide, by decide⟩, ⟨by decide, by decide⟩⟩ (fun c_16_11 => ?_) (fun c_16_11 => ?_)
                      · refine pg_re 3 (L := [12 ≠ 0 ∧ pg_inR (((((24 - (12 * z23)) - ((Int.tdiv (((mt_cc (g23 1) s n 2 0) * 12) * (2 - 1)) 2) + (Int.tdiv (((mt_cc (g23 1) s n 2 1) * 6) * (2 - 1)) 2))) - ((Int.tdiv (((mt_cc (g23 1) s n 3 0) * 12) * (3 - 1)) 3) + (Int.tdiv (((mt_cc (g23 1) s n 3 1) * 6) * (3 - 1)) 3))) - ((Int.tdiv (((mt_cc (g23 1) s n 4 0) * 12) * (4 - 1)) 4) + (Int.tdiv (((mt_cc (g23 1) s n 4 1) * 6) * (4 - 1)) 4))) - ((Int.tdiv (((mt_cc (g23 1) s n 6 0) * 12) * (6 - 1)) 6) + (Int.tdiv (((mt_cc (g23 1) s n 6 1) * 6) * (6 - 1)) 6))) ∧ pg_inR 12]) (r := some (.inl (Int.tdiv (((((24 - (12 * z23)) - ((Int.tdiv (((mt_cc (g23 1) s n 2 0) * 12) * (2 - 1)) 2) + (Int.tdiv (((mt_cc (g23 1) s n 2 1) * 6) * (2 - 1)) 2))) - ((Int.tdiv (((mt_cc (g23 1) s n 3 0) * 12) * (3 - 1)) 3) + (Int.tdiv (((mt_cc (g23 1) s n 3 1) * 6) * (3 - 1)) 3))) - ((Int.tdiv (((mt_cc (g23 1) s n 4 0) * 12) * (4 - 1)) 4) + (Int.tdiv (((mt_cc (g23 1) s n 4 1) * 6) * (4 - 1)) 4))) - ((Int.tdiv (((mt_cc (g23 1) s n 6 0) * 12) * (6 - 1)) 6) + (Int.tdiv (((mt_cc (g23 1) s n 6 1) * 6) * (6 - 1)) 6))) 12))) (h0 := rm g23 s n) rfl ⟨by omega, ⟨by omega, by omega⟩, ⟨by omega, by omega⟩⟩ ?_
                        refine ⟨g23, z23, rfl, ef23, hec23, ?_, ?_⟩
                        · rw [e1_23]; rfl
                        · refine pg_td_ab ?_ (by decide)
                          unfold mt_lf; rw [← e1_23]; omega
                      · exact absurd c_16_11 (by decide)
                · exact absurd c_21_8 (by decide)
set_option maxRecDepth 20000 in
set_option maxHeartbeats 4000000 in
theorem re_ft_0 {g : pg_H} {s n : Int} (hB : rm_B g s n) (hS : ri_S g s n) (hP : ri_P g s n) {b : Int} (hb : pg_inR b) : pg_Good false pm_T_feature (fun r h' => ∃ (g' : pg_H) (z : Int), h' = rm g' s n ∧ rf [15] [15, 16, 23, 24] g g' ∧ r = some (.inl z) ∧ ((0 : Int) = 0 → z = mt_cc (g 1) s n b 0) ∧ ((0 : Int) = 1 → z = mt_cc (g 1) s n b 1) ∧ ((0 : Int) = 2 → ri_ec (g 1) s n z) ∧ ((0 : Int) = 3 → (¬ mt_od (g 1) s n ∧ z = 0) ∨ (mt_od (g 1) s n ∧ ∃ e : Int, ri_ec (g 1) s n e ∧ z = Int.tdiv (mt_lf (g 1) s n e) 12)) ∧ ((0 : Int) = 4 → (mt_od (g 1) s n ∧ z = 0) ∨ (¬ mt_od (g 1) s n ∧ ∃ e : Int, ri_ec (g 1) s n e ∧ z = Int.tdiv (Int.tdiv (mt_lf (g 1) s n e) 12) 2))) (45, [(0, .inr (.inr 0)), (1, .inl 0), (2, .inl b)], [], rm g s n) := by
  obtain ⟨hs, hn, hT⟩ := id hB
  obtain ⟨hn1, hn2⟩ := id hn
  have hr := mt_rd_or hs
  have h66 := mt_66 hn1 hn2
  have hN := mt_2rn hs hn
  obtain ⟨b1, b2⟩ := hb
  have hcb0 := mt_cc_bd (s := s) hn (g 1) b 0
  refine pg_ca 5 (L := [pg_inR 0]) (Mc := pm_T_countClasses) (as := [.inr (.inr 0), .inl b, .inl 0]) (h0 := rm g s n) (pc := 82) (lv := [(0, .inr (.inr 0)), (1, .inl 0), (2, .inl b)]) (rest := []) rfl ⟨by decide, by decide⟩ (re_countClasses (g := g) hB hS hP b 0 ⟨by omega, by omega⟩ (by omega)) ?_
  intro r_1 h_1 e_1; rw [e_1.1, e_1.2]; have hcc_790 := mt_cc_bd (s := s) hn (g 1) b 0; have hct_790 := pg_td_bd (x := mt_cc (g 1) s n b 0 * 1) (y := 1) (by omega) (by decide)
  refine pg_re 0 (L := []) (r := some (.inl (mt_cc (g 1) s n b 0))) (h0 := rm g s n) rfl trivial ?_
  refine ⟨_, _, rfl, rf_rf _ _ _, rfl, fun _ => rfl, fun hz => absurd hz (by decide), fun hz => absurd hz (by decide), fun hz => absurd hz (by decide), fun hz => absurd hz (by decide)⟩
set_option maxRecDepth 20000 in
set_option maxHeartbeats 4000000 in
theorem re_ft_1 {g : pg_H} {s n : Int} (hB : rm_B g s n) (hS : ri_S g s n) (hP : ri_P g s n) {b : Int} (hb : pg_inR b) : pg_Good false pm_T_feature (fun r h' => ∃ (g' : pg_H) (z : Int), h' = rm g' s n ∧ rf [15] [15, 16, 23, 24] g g' ∧ r = some (.inl z) ∧ ((1 : Int) = 0 → z = mt_cc (g 1) s n b 0) ∧ ((1 : Int) = 1 → z = mt_cc (g 1) s n b 1) ∧ ((1 : Int) = 2 → ri_ec (g 1) s n z) ∧ ((1 : Int) = 3 → (¬ mt_od (g 1) s n ∧ z = 0) ∨ (mt_od (g 1) s n ∧ ∃ e : Int, ri_ec (g 1) s n e ∧ z = Int.tdiv (mt_lf (g 1) s n e) 12)) ∧ ((1 : Int) = 4 → (mt_od (g 1) s n ∧ z = 0) ∨ (¬ mt_od (g 1) s n ∧ ∃ e : Int, ri_ec (g 1) s n e ∧ z = Int.tdiv (Int.tdiv (mt_lf (g 1) s n e) 12) 2))) (45, [(0, .inr (.inr 0)), (1, .inl 1), (2, .inl b)], [], rm g s n) := by
  obtain ⟨hs, hn, hT⟩ := id hB
  obtain ⟨hn1, hn2⟩ := id hn
  have hr := mt_rd_or hs
  have h66 := mt_66 hn1 hn2
  have hN := mt_2rn hs hn
  obtain ⟨b1, b2⟩ := hb
  have hcb0 := mt_cc_bd (s := s) hn (g 1) b 0
  refine pg_ca 5 (L := [pg_inR 1]) (Mc := pm_T_countClasses) (as := [.inr (.inr 0), .inl b, .inl 1]) (h0 := rm g s n) (pc := 89) (lv := [(0, .inr (.inr 0)), (1, .inl 1), (2, .inl b)]) (rest := []) rfl ⟨by decide, by decide⟩ (re_countClasses (g := g) hB hS hP b 1 ⟨by omega, by omega⟩ (by omega)) ?_
  intro r_1 h_1 e_1; rw [e_1.1, e_1.2]; have hcc_860 := mt_cc_bd (s := s) hn (g 1) b 1; have hct_860 := pg_td_bd (x := mt_cc (g 1) s n b 1 * 1) (y := 1) (by omega) (by decide)
  refine pg_re 0 (L := []) (r := some (.inl (mt_cc (g 1) s n b 1))) (h0 := rm g s n) rfl trivial ?_
  refine ⟨_, _, rfl, rf_rf _ _ _, rfl, fun hz => absurd hz (by decide), fun _ => rfl, fun hz => absurd hz (by decide), fun hz => absurd hz (by decide), fun hz => absurd hz (by decide)⟩
set_option maxRecDepth 20000 in
set_option maxHeartbeats 4000000 in
theorem re_ft_2 {g : pg_H} {s n : Int} (hB : rm_B g s n) (hS : ri_S g s n) (hP : ri_P g s n) {b : Int} (hb : pg_inR b) : pg_Good false pm_T_feature (fun r h' => ∃ (g' : pg_H) (z : Int), h' = rm g' s n ∧ rf [15] [15, 16, 23, 24] g g' ∧ r = some (.inl z) ∧ ((2 : Int) = 0 → z = mt_cc (g 1) s n b 0) ∧ ((2 : Int) = 1 → z = mt_cc (g 1) s n b 1) ∧ ((2 : Int) = 2 → ri_ec (g 1) s n z) ∧ ((2 : Int) = 3 → (¬ mt_od (g 1) s n ∧ z = 0) ∨ (mt_od (g 1) s n ∧ ∃ e : Int, ri_ec (g 1) s n e ∧ z = Int.tdiv (mt_lf (g 1) s n e) 12)) ∧ ((2 : Int) = 4 → (mt_od (g 1) s n ∧ z = 0) ∨ (¬ mt_od (g 1) s n ∧ ∃ e : Int, ri_ec (g 1) s n e ∧ z = Int.tdiv (Int.tdiv (mt_lf (g 1) s n e) 12) 2))) (45, [(0, .inr (.inr 0)), (1, .inl 2), (2, .inl b)], [], rm g s n) := by
  obtain ⟨hs, hn, hT⟩ := id hB
  obtain ⟨hn1, hn2⟩ := id hn
  have hr := mt_rd_or hs
  have h66 := mt_66 hn1 hn2
  have hN := mt_2rn hs hn
  obtain ⟨b1, b2⟩ := hb
  have hcb0 := mt_cc_bd (s := s) hn (g 1) b 0
  refine pg_ca 3 (L := [pg_inR 2]) (Mc := pm_T_countEdges) (as := [.inr (.inr 0)]) (h0 := rm g s n) (pc := 94) (lv := [(0, .inr (.inr 0)), (1, .inl 2), (2, .inl b)]) (rest := []) rfl ⟨by decide, by decide⟩ (re_countEdges (g := g) hB hS hP) ?_
  intro r_1 h_1 e_1; obtain ⟨g24, z24, eh_, ef24, er_, hz24, hec24⟩ := e_1; rw [er_, eh_]; have hB24 := rm_B_fr hB ef24 (by decide); have hS24 := ri_S_fr hS ef24 (by decide); have hP24 := ri_P_fr hP ef24 (by decide)
  have e1_24 : g24 1 = g 1 := ef24.1 1 (by decide) (by decide)
  refine pg_re 0 (L := []) (r := some (.inl z24)) (h0 := rm g24 s n) rfl trivial ?_
  refine ⟨_, _, rfl, ef24, rfl, fun hz => absurd hz (by decide), fun hz => absurd hz (by decide), fun _ => hec24, fun hz => absurd hz (by decide), fun hz => absurd hz (by decide)⟩
set_option maxRecDepth 20000 in
set_option maxHeartbeats 4000000 in
theorem re_ft_3 {g : pg_H} {s n : Int} (hB : rm_B g s n) (hS : ri_S g s n) (hP : ri_P g s n) {b : Int} (hb : pg_inR b) : pg_Good false pm_T_feature (fun r h' => ∃ (g' : pg_H) (z : Int), h' = rm g' s n ∧ rf [15] [15, 16, 23, 24] g g' ∧ r = some (.inl z) ∧ ((3 : Int) = 0 → z = mt_cc (g 1) s n b 0) ∧ ((3 : Int) = 1 → z = mt_cc (g 1) s n b 1) ∧ ((3 : Int) = 2 → ri_ec (g 1) s n z) ∧ ((3 : Int) = 3 → (¬ mt_od (g 1) s n ∧ z = 0) ∨ (mt_od (g 1) s n ∧ ∃ e : Int, ri_ec (g 1) s n e ∧ z = Int.tdiv (mt_lf (g 1) s n e) 12)) ∧ ((3 : Int) = 4 → (mt_od (g 1) s n ∧ z = 0) ∨ (¬ mt_od (g 1) s n ∧ ∃ e : Int, ri_ec (g 1) s n e ∧ z = Int.tdiv (Int.tdiv (mt_lf (g 1) s n e) 12) 2))) (45, [(0, .inr (.inr 0)), (1, .inl 3), (2, .inl b)], [], rm g s n) := by
  obtain ⟨hs, hn, hT⟩ := id hB
  obtain ⟨hn1, hn2⟩ := id hn
  have hr := mt_rd_or hs
  have h66 := mt_66 hn1 hn2
  have hN := mt_2rn hs hn
  obtain ⟨b1, b2⟩ := hb
  have hcb0 := mt_cc_bd (s := s) hn (g 1) b 0
  refine pg_ca 3 (L := [pg_inR 3]) (Mc := pm_T_hasOdd) (as := [.inr (.inr 0)]) (h0 := rm g s n) (pc := 99) (lv := [(0, .inr (.inr 0)), (1, .inl 3), (2, .inl b)]) (rest := []) rfl ⟨by decide, by decide⟩ (re_hasOdd (g := g) hB hS hP) ?_
  intro r_1 h_1 e_1; rw [e_1.1, e_1.2]; have hbo := pg_b_or (mt_od (g 1) s n)
  refine pg_br 0 (L := []) (P := pg_inR (pg_b (mt_od (g 1) s n))) (c := (pg_b (mt_od (g 1) s n)) = 0) (st1 := (109, [(0, .inr (.inr 0)), (1, .inl 3), (2, .inl b)], [], rm g s n)) (st2 := (102, [(0, .inr (.inr 0)), (1, .inl 3), (2, .inl b)], [], rm g s n)) rfl trivial ⟨by omega, by omega⟩ (fun c_99_1 => ?_) (fun c_99_1 => ?_)
  · refine pg_re 1 (L := []) (r := some (.inl 0)) (h0 := rm g s n) rfl trivial ?_
    refine ⟨_, _, rfl, rf_rf _ _ _, rfl, fun hz => absurd hz (by decide), fun hz => absurd hz (by decide), fun hz => absurd hz (by decide), fun _ => ?_, fun hz => absurd hz (by decide)⟩
    rcases hbo with h1 | h1
    · exfalso; omega
    · exact Or.inl ⟨h1.1, rfl⟩
  · refine pg_ca 1 (L := []) (Mc := pm_T_left) (as := [.inr (.inr 0)]) (h0 := rm g s n) (pc := 106) (lv := [(0, .inr (.inr 0)), (1, .inl 3), (2, .inl b)]) (rest := []) rfl trivial (re_left (g := g) hB hS hP) ?_
    intro r_1 h_1 e_1; obtain ⟨g25, z25, eh_, ef25, hec25, er_, hlb25⟩ := e_1; rw [er_, eh_]
    refine pg_re 1 (L := []) (r := some (.inl (Int.tdiv (mt_lf (g 1) s n z25) 12))) (h0 := rm g25 s n) rfl trivial ?_
    refine ⟨_, _, rfl, ef25, rfl, fun hz => absurd hz (by decide), fun hz => absurd hz (by decide), fun hz => absurd hz (by decide), fun _ => ?_, fun hz => absurd hz (by decide)⟩
    rcases hbo with h1 | h1
    · exact Or.inr ⟨h1.1, _, hec25, rfl⟩
    · exfalso; omega
set_option maxRecDepth 20000 in
set_option maxHeartbeats 4000000 in
theorem re_ft_4 {g : pg_H} {s n : Int} (hB : rm_B g s n) (hS : ri_S g s n) (hP : ri_P g s n) {b : Int} (hb : pg_inR b) : pg_Good false pm_T_feature (fun r h' => ∃ (g' : pg_H) (z : Int), h' = rm g' s n ∧ rf [15] [15, 16, 23, 24] g g' ∧ r = some (.inl z) ∧ ((4 : Int) = 0 → z = mt_cc (g 1) s n b 0) ∧ ((4 : Int) = 1 → z = mt_cc (g 1) s n b 1) ∧ ((4 : Int) = 2 → ri_ec (g 1) s n z) ∧ ((4 : Int) = 3 → (¬ mt_od (g 1) s n ∧ z = 0) ∨ (mt_od (g 1) s n ∧ ∃ e : Int, ri_ec (g 1) s n e ∧ z = Int.tdiv (mt_lf (g 1) s n e) 12)) ∧ ((4 : Int) = 4 → (mt_od (g 1) s n ∧ z = 0) ∨ (¬ mt_od (g 1) s n ∧ ∃ e : Int, ri_ec (g 1) s n e ∧ z = Int.tdiv (Int.tdiv (mt_lf (g 1) s n e) 12) 2))) (45, [(0, .inr (.inr 0)), (1, .inl 4), (2, .inl b)], [], rm g s n) := by
  obtain ⟨hs, hn, hT⟩ := id hB
  obtain ⟨hn1, hn2⟩ := id hn
  have hr := mt_rd_or hs
  have h66 := mt_66 hn1 hn2
  have hN := mt_2rn hs hn
  obtain ⟨b1, b2⟩ := hb
  have hcb0 := mt_cc_bd (s := s) hn (g 1) b 0
  refine pg_ca 3 (L := [pg_inR 4]) (Mc := pm_T_hasOdd) (as := [.inr (.inr 0)]) (h0 := rm g s n) (pc := 115) (lv := [(0, .inr (.inr 0)), (1, .inl 4), (2, .inl b)]) (rest := []) rfl ⟨by decide, by decide⟩ (re_hasOdd (g := g) hB hS hP) ?_
  intro r_1 h_1 e_1; rw [e_1.1, e_1.2]; have hbo := pg_b_or (mt_od (g 1) s n)
  refine pg_br 0 (L := []) (P := pg_inR (pg_b (mt_od (g 1) s n))) (c := (pg_b (mt_od (g 1) s n)) = 0) (st1 := (122, [(0, .inr (.inr 0)), (1, .inl 4), (2, .inl b)], [], rm g s n)) (st2 := (118, [(0, .inr (.inr 0)), (1, .inl 4), (2, .inl b)], [], rm g s n)) rfl trivial ⟨by omega, by omega⟩ (fun c_115_1 => ?_) (fun c_115_1 => ?_)
  · refine pg_ca 1 (L := []) (Mc := pm_T_left) (as := [.inr (.inr 0)]) (h0 := rm g s n) (pc := 126) (lv := [(0, .inr (.inr 0)), (1, .inl 4), (2, .inl b)]) (rest := []) rfl trivial (re_left (g := g) hB hS hP) ?_
    intro r_1 h_1 e_1; obtain ⟨g26, z26, eh_, ef26, hec26, er_, hlb26⟩ := e_1; rw [er_, eh_]
    refine pg_re 2 (L := [2 ≠ 0 ∧ pg_inR (Int.tdiv (mt_lf (g 1) s n z26) 12) ∧ pg_inR 2]) (r := some (.inl (Int.tdiv (Int.tdiv (mt_lf (g 1) s n z26) 12) 2))) (h0 := rm g26 s n) rfl ⟨by omega, ⟨by omega, by omega⟩, ⟨by omega, by omega⟩⟩ ?_
    refine ⟨_, _, rfl, ef26, rfl, fun hz => absurd hz (by decide), fun hz => absurd hz (by decide), fun hz => absurd hz (by decide), fun hz => absurd hz (by decide), fun _ => ?_⟩
    rcases hbo with h1 | h1
    · exfalso; omega
    · exact Or.inr ⟨h1.1, _, hec26, rfl⟩
  · refine pg_re 2 (L := []) (r := some (.inl 0)) (h0 := rm g s n) rfl trivial ?_
    refine ⟨_, _, rfl, rf_rf _ _ _, rfl, fun hz => absurd hz (by decide), fun hz => absurd hz (by decide), fun hz => absurd hz (by decide), fun hz => absurd hz (by decide), fun _ => ?_⟩
    rcases hbo with h1 | h1
    · exact Or.inl ⟨h1.1, rfl⟩
    · exfalso; omega
set_option maxRecDepth 20000 in
set_option maxHeartbeats 8000000 in
theorem re_feature {g : pg_H} {s n : Int} (hB : rm_B g s n) (hC : ri_C g) (hK : ri_K g s n) (hJ : ri_J g s n) (a : Int) (ha : pg_inR a) (b : Int) (hb : pg_inR b) : pg_Sem false pm_T_feature [.inr (.inr 0), .inl a, .inl b] (rm g s n) (fun r h' => ∃ (g' : pg_H) (z : Int), h' = rm g' s n ∧ rf [3, 4, 5, 6, 7, 8, 15] [6, 7, 8, 13, 15, 16, 23, 24] g g' ∧ ri_K g' s n ∧ ri_J g' s n ∧ r = some (.inl z) ∧ (¬ ((0 ≤ a ∧ a ≤ 4) ∧ (a < 2 → b = 2 ∨ b = 3 ∨ b = 4 ∨ b = 6)) → z = -2) ∧ ((0 ≤ a ∧ a ≤ 4) ∧ (a < 2 → b = 2 ∨ b = 3 ∨ b = 4 ∨ b = 6) → (a = 0 → z = mt_cc (g 1) s n b 0) ∧ (a = 1 → z = mt_cc (g 1) s n b 1) ∧ (a = 2 → ri_ec (g 1) s n z) ∧ (a = 3 → (¬ mt_od (g 1) s n ∧ z = 0) ∨ (mt_od (g 1) s n ∧ ∃ e : Int, ri_ec (g 1) s n e ∧ z = Int.tdiv (mt_lf (g 1) s n e) 12)) ∧ (a = 4 → (mt_od (g 1) s n ∧ z = 0) ∨ (¬ mt_od (g 1) s n ∧ ∃ e : Int, ri_ec (g 1) s n e ∧ z = Int.tdiv (Int.tdiv (mt_lf (g 1) s n e) 12) 2)))) := by
  obtain ⟨hs, hn, hT⟩ := id hB
  obtain ⟨hn1, hn2⟩ := id hn
  have hr := mt_rd_or hs
  obtain ⟨a1, a2⟩ := ha
  obtain ⟨b1, b2⟩ := hb
  refine pg_Sem_of pm_T_feature_f rfl ?_
  refine pg_ca 4 (L := [pg_inR a]) (Mc := pm_T_isIn) (as := [.inr (.inl a), .inr (.inl 0), .inr (.inl 4)]) (h0 := rm g s n) (pc := 9) (lv := [(0, .inr (.inr 0)), (1, .inl a), (2, .inl b)]) (rest := []) rfl ⟨by omega, by omega⟩ (re_isIn (rm g s n) a 0 4 ⟨by omega, by omega⟩ ⟨by omega, by omega⟩ ⟨by omega, by omega⟩) ?_
  intro r_1 h_1 e_1; rw [e_1.1, e_1.2]
  have hin_6 : ((if 0 ≤ a ∧ a ≤ 4 then (1 : Int) else 0) = 1 ∧ (0 ≤ a ∧ a ≤ 4)) ∨ ((if 0 ≤ a ∧ a ≤ 4 then (1 : Int) else 0) = 0 ∧ ¬ (0 ≤ a ∧ a ≤ 4)) := by split <;> simp_all
  refine pg_br 0 (L := []) (P := pg_inR (if 0 ≤ a ∧ a ≤ 4 then 1 else 0)) (c := (if 0 ≤ a ∧ a ≤ 4 then 1 else 0) = 0) (st1 := (38, [(0, .inr (.inr 0)), (1, .inl a), (2, .inl b)], [], rm g s n)) (st2 := (12, [(0, .inr (.inr 0)), (1, .inl a), (2, .inl b)], [], rm g s n)) rfl trivial ⟨by omega, by omega⟩ (fun c_9_1 => ?_) (fun c_9_1 => ?_)
  · refine pg_re 1 (L := []) (r := some (.inl (-2))) (h0 := rm g s n) rfl trivial ?_
    exact ⟨g, -2, rfl, rf_rf _ _ _, hK, hJ, rfl, fun _ => rfl, fun hz => absurd hz (by omega)⟩
  · refine pg_br 2 (L := []) (P := pg_inR a ∧ pg_inR 2) (c := 2 ≤ a) (st1 := (41, [(0, .inr (.inr 0)), (1, .inl a), (2, .inl b)], [], rm g s n)) (st2 := (17, [(0, .inr (.inr 0)), (1, .inl a), (2, .inl b)], [], rm g s n)) rfl trivial ⟨⟨by omega, by omega⟩, ⟨by decide, by decide⟩⟩ (fun c_14_2 => ?_) (fun c_14_2 => ?_)
    · refine pg_ca 1 (L := []) (Mc := pm_T_findPlaces) (as := [.inr (.inr 0)]) (h0 := rm g s n) (pc := 45) (lv := [(0, .inr (.inr 0)), (1, .inl a), (2, .inl b)]) (rest := []) rfl trivial (re_findPlaces (g := g) hB hC hK hJ) ?_
      intro r_1 h_1 e_1; obtain ⟨er_, g27, eh_, ef27, e827, e727, hS27, hP27⟩ := e_1; rw [er_, eh_]; have hB27 := rm_B_fr hB ef27 (by decide); have hC27 := ri_C_fr hC ef27 (by decide)
      have e1_27 : g27 1 = g 1 := ef27.1 1 (by decide) (by decide)
      have hval : (0 ≤ a ∧ a ≤ 4) ∧ (a < 2 → b = 2 ∨ b = 3 ∨ b = 4 ∨ b = 6) := by omega
      have hcs : a = 0 ∨ a = 1 ∨ a = 2 ∨ a = 3 ∨ a = 4 := by omega
      have hfin : ∀ (r_ : Option pg_V) (h_ : pg_H), (∃ (g' : pg_H) (z : Int), h_ = rm g' s n ∧ rf [15] [15, 16, 23, 24] g27 g' ∧ r_ = some (.inl z) ∧ (a = 0 → z = mt_cc (g27 1) s n b 0) ∧ (a = 1 → z = mt_cc (g27 1) s n b 1) ∧ (a = 2 → ri_ec (g27 1) s n z) ∧ (a = 3 → (¬ mt_od (g27 1) s n ∧ z = 0) ∨ (mt_od (g27 1) s n ∧ ∃ e : Int, ri_ec (g27 1) s n e ∧ z = Int.tdiv (mt_lf (g27 1) s n e) 12)) ∧ (a = 4 → (mt_od (g27 1) s n ∧ z = 0) ∨ (¬ mt_od (g27 1) s n ∧ ∃ e : Int, ri_ec (g27 1) s n e ∧ z = Int.tdiv (Int.tdiv (mt_lf (g27 1) s n e) 12) 2))) → ∃ (g' : pg_H) (z : Int), h_ = rm g' s n ∧ rf [3, 4, 5, 6, 7, 8, 15] [6, 7, 8, 13, 15, 16, 23, 24] g g' ∧ ri_K g' s n ∧ ri_J g' s n ∧ r_ = some (.inl z) ∧ (¬ ((0 ≤ a ∧ a ≤ 4) ∧ (a < 2 → b = 2 ∨ b = 3 ∨ b = 4 ∨ b = 6)) → z = -2) ∧ ((0 ≤ a ∧ a ≤ 4) ∧ (a < 2 → b = 2 ∨ b = 3 ∨ b = 4 ∨ b = 6) → (a = 0 → z = mt_cc (g 1) s n b 0) ∧ (a = 1 → z = mt_cc (g 1) s n b 1) ∧ (a = 2 → ri_ec (g 1) s n z) ∧ (a = 3 → (¬ mt_od (g 1) s n ∧ z = 0) ∨ (mt_od (g 1) s n ∧ ∃ e : Int, ri_ec (g 1) s n e ∧ z = Int.tdiv (mt_lf (g 1) s n e) 12)) ∧ (a = 4 → (mt_od (g 1) s n ∧ z = 0) ∨ (¬ mt_od (g 1) s n ∧ ∃ e : Int, ri_ec (g 1) s n e ∧ z = Int.tdiv (Int.tdiv (mt_lf (g 1) s n e) 12) 2))) := by
        rintro r_ h_ ⟨g3, z, q1, q2, q3, q4⟩
        refine ⟨g3, z, q1, rf_tr (rf_w ef27 (cs := [3, 4, 5, 6, 7, 8, 15]) (fs := [6, 7, 8, 13, 15, 16, 23, 24]) (by decide) (by decide)) q2 (by decide) (by decide), Or.inr ⟨?_, ri_S_fr hS27 q2 (by decide)⟩, Or.inr ⟨?_, ?_, ri_S_fr hS27 q2 (by decide), ri_P_fr hP27 q2 (by decide)⟩, q3, fun hz => absurd hval hz, fun _ => ?_⟩
        · rw [q2.2 7 (by decide)]; exact e727
        · rw [q2.2 8 (by decide)]; exact e827
        · rw [q2.2 7 (by decide)]; exact e727
        · rw [e1_27] at q4; exact q4
      rcases hcs with rfl | rfl | rfl | rfl | rfl
      · exact po_st_mono (re_ft_0 hB27 hS27 hP27 ⟨b1, b2⟩) hfin
      · exact po_st_mono (re_ft_1 hB27 hS27 hP27 ⟨b1, b2⟩) hfin
      · exact po_st_mono (re_ft_2 hB27 hS27 hP27 ⟨b1, b2⟩) hfin
      · exact po_st_mono (re_ft_3 hB27 hS27 hP27 ⟨b1, b2⟩) hfin
      · exact po_st_mono (re_ft_4 hB27 hS27 hP27 ⟨b1, b2⟩) hfin
    · refine pg_br 2 (L := []) (P := pg_inR b ∧ pg_inR 2) (c := b = 2) (st1 := (41, [(0, .inr (.inr 0)), (1, .inl a), (2, .inl b)], [], rm g s n)) (st2 := (22, [(0, .inr (.inr 0)), (1, .inl a), (2, .inl b)], [], rm g s n)) rfl trivial ⟨⟨by omega, by omega⟩, ⟨by decide, by decide⟩⟩ (fun c_19_3 => ?_) (fun c_19_3 => ?_)
      · refine pg_ca 1 (L := []) (Mc := pm_T_findPlaces) (as := [.inr (.inr 0)]) (h0 := rm g s n) (pc := 45) (lv := [(0, .inr (.inr 0)), (1, .inl a), (2, .inl b)]) (rest := []) rfl trivial (re_findPlaces (g := g) hB hC hK hJ) ?_
        intro r_1 h_1 e_1; obtain ⟨er_, g28, eh_, ef28, e828, e728, hS28, hP28⟩ := e_1; rw [er_, eh_]; have hB28 := rm_B_fr hB ef28 (by decide); have hC28 := ri_C_fr hC ef28 (by decide)
        have e1_28 : g28 1 = g 1 := ef28.1 1 (by decide) (by decide)
        have hval : (0 ≤ a ∧ a ≤ 4) ∧ (a < 2 → b = 2 ∨ b = 3 ∨ b = 4 ∨ b = 6) := by omega
        have hcs : a = 0 ∨ a = 1 ∨ a = 2 ∨ a = 3 ∨ a = 4 := by omega
        have hfin : ∀ (r_ : Option pg_V) (h_ : pg_H), (∃ (g' : pg_H) (z : Int), h_ = rm g' s n ∧ rf [15] [15, 16, 23, 24] g28 g' ∧ r_ = some (.inl z) ∧ (a = 0 → z = mt_cc (g28 1) s n b 0) ∧ (a = 1 → z = mt_cc (g28 1) s n b 1) ∧ (a = 2 → ri_ec (g28 1) s n z) ∧ (a = 3 → (¬ mt_od (g28 1) s n ∧ z = 0) ∨ (mt_od (g28 1) s n ∧ ∃ e : Int, ri_ec (g28 1) s n e ∧ z = Int.tdiv (mt_lf (g28 1) s n e) 12)) ∧ (a = 4 → (mt_od (g28 1) s n ∧ z = 0) ∨ (¬ mt_od (g28 1) s n ∧ ∃ e : Int, ri_ec (g28 1) s n e ∧ z = Int.tdiv (Int.tdiv (mt_lf (g28 1) s n e) 12) 2))) → ∃ (g' : pg_H) (z : Int), h_ = rm g' s n ∧ rf [3, 4, 5, 6, 7, 8, 15] [6, 7, 8, 13, 15, 16, 23, 24] g g' ∧ ri_K g' s n ∧ ri_J g' s n ∧ r_ = some (.inl z) ∧ (¬ ((0 ≤ a ∧ a ≤ 4) ∧ (a < 2 → b = 2 ∨ b = 3 ∨ b = 4 ∨ b = 6)) → z = -2) ∧ ((0 ≤ a ∧ a ≤ 4) ∧ (a < 2 → b = 2 ∨ b = 3 ∨ b = 4 ∨ b = 6) → (a = 0 → z = mt_cc (g 1) s n b 0) ∧ (a = 1 → z = mt_cc (g 1) s n b 1) ∧ (a = 2 → ri_ec (g 1) s n z) ∧ (a = 3 → (¬ mt_od (g 1) s n ∧ z = 0) ∨ (mt_od (g 1) s n ∧ ∃ e : Int, ri_ec (g 1) s n e ∧ z = Int.tdiv (mt_lf (g 1) s n e) 12)) ∧ (a = 4 → (mt_od (g 1) s n ∧ z = 0) ∨ (¬ mt_od (g 1) s n ∧ ∃ e : Int, ri_ec (g 1) s n e ∧ z = Int.tdiv (Int.tdiv (mt_lf (g 1) s n e) 12) 2))) := by
          rintro r_ h_ ⟨g3, z, q1, q2, q3, q4⟩
          refine ⟨g3, z, q1, rf_tr (rf_w ef28 (cs := [3, 4, 5, 6, 7, 8, 15]) (fs := [6, 7, 8, 13, 15, 16, 23, 24]) (by decide) (by decide)) q2 (by decide) (by decide), Or.inr ⟨?_, ri_S_fr hS28 q2 (by decide)⟩, Or.inr ⟨?_, ?_, ri_S_fr hS28 q2 (by decide), ri_P_fr hP28 q2 (by decide)⟩, q3, fun hz => absurd hval hz, fun _ => ?_⟩
          · rw [q2.2 7 (by decide)]; exact e728
          · rw [q2.2 8 (by decide)]; exact e828
          · rw [q2.2 7 (by decide)]; exact e728
          · rw [e1_28] at q4; exact q4
        rcases hcs with rfl | rfl | rfl | rfl | rfl
        · exact po_st_mono (re_ft_0 hB28 hS28 hP28 ⟨b1, b2⟩) hfin
        · exact po_st_mono (re_ft_1 hB28 hS28 hP28 ⟨b1, b2⟩) hfin
        · exact po_st_mono (re_ft_2 hB28 hS28 hP28 ⟨b1, b2⟩) hfin
        · exact po_st_mono (re_ft_3 hB28 hS28 hP28 ⟨b1, b2⟩) hfin
        · exact po_st_mono (re_ft_4 hB28 hS28 hP28 ⟨b1, b2⟩) hfin
      · refine pg_br 2 (L := []) (P := pg_inR b ∧ pg_inR 3) (c := b = 3) (st1 := (41, [(0, .inr (.inr 0)), (1, .inl a), (2, .inl b)], [], rm g s n)) (st2 := (27, [(0, .inr (.inr 0)), (1, .inl a), (2, .inl b)], [], rm g s n)) rfl trivial ⟨⟨by omega, by omega⟩, ⟨by decide, by decide⟩⟩ (fun c_24_4 => ?_) (fun c_24_4 => ?_)
        · refine pg_ca 1 (L := []) (Mc := pm_T_findPlaces) (as := [.inr (.inr 0)]) (h0 := rm g s n) (pc := 45) (lv := [(0, .inr (.inr 0)), (1, .inl a), (2, .inl b)]) (rest := []) rfl trivial (re_findPlaces (g := g) hB hC hK hJ) ?_
          intro r_1 h_1 e_1; obtain ⟨er_, g29, eh_, ef29, e829, e729, hS29, hP29⟩ := e_1; rw [er_, eh_]; have hB29 := rm_B_fr hB ef29 (by decide); have hC29 := ri_C_fr hC ef29 (by decide)
          have e1_29 : g29 1 = g 1 := ef29.1 1 (by decide) (by decide)
          have hval : (0 ≤ a ∧ a ≤ 4) ∧ (a < 2 → b = 2 ∨ b = 3 ∨ b = 4 ∨ b = 6) := by omega
          have hcs : a = 0 ∨ a = 1 ∨ a = 2 ∨ a = 3 ∨ a = 4 := by omega
          have hfin : ∀ (r_ : Option pg_V) (h_ : pg_H), (∃ (g' : pg_H) (z : Int), h_ = rm g' s n ∧ rf [15] [15, 16, 23, 24] g29 g' ∧ r_ = some (.inl z) ∧ (a = 0 → z = mt_cc (g29 1) s n b 0) ∧ (a = 1 → z = mt_cc (g29 1) s n b 1) ∧ (a = 2 → ri_ec (g29 1) s n z) ∧ (a = 3 → (¬ mt_od (g29 1) s n ∧ z = 0) ∨ (mt_od (g29 1) s n ∧ ∃ e : Int, ri_ec (g29 1) s n e ∧ z = Int.tdiv (mt_lf (g29 1) s n e) 12)) ∧ (a = 4 → (mt_od (g29 1) s n ∧ z = 0) ∨ (¬ mt_od (g29 1) s n ∧ ∃ e : Int, ri_ec (g29 1) s n e ∧ z = Int.tdiv (Int.tdiv (mt_lf (g29 1) s n e) 12) 2))) → ∃ (g' : pg_H) (z : Int), h_ = rm g' s n ∧ rf [3, 4, 5, 6, 7, 8, 15] [6, 7, 8, 13, 15, 16, 23, 24] g g' ∧ ri_K g' s n ∧ ri_J g' s n ∧ r_ = some (.inl z) ∧ (¬ ((0 ≤ a ∧ a ≤ 4) ∧ (a < 2 → b = 2 ∨ b = 3 ∨ b = 4 ∨ b = 6)) → z = -2) ∧ ((0 ≤ a ∧ a ≤ 4) ∧ (a < 2 → b = 2 ∨ b = 3 ∨ b = 4 ∨ b = 6) → (a = 0 → z = mt_cc (g 1) s n b 0) ∧ (a = 1 → z = mt_cc (g 1) s n b 1) ∧ (a = 2 → ri_ec (g 1) s n z) ∧ (a = 3 → (¬ mt_od (g 1) s n ∧ z = 0) ∨ (mt_od (g 1) s n ∧ ∃ e : Int, ri_ec (g 1) s n e ∧ z = Int.tdiv (mt_lf (g 1) s n e) 12)) ∧ (a = 4 → (mt_od (g 1) s n ∧ z = 0) ∨ (¬ mt_od (g 1) s n ∧ ∃ e : Int, ri_ec (g 1) s n e ∧ z = Int.tdiv (Int.tdiv (mt_lf (g 1) s n e) 12) 2))) := by
            rintro r_ h_ ⟨g3, z, q1, q2, q3, q4⟩
            refine ⟨g3, z, q1, rf_tr (rf_w ef29 (cs := [3, 4, 5, 6, 7, 8, 15]) (fs := [6, 7, 8, 13, 15, 16, 23, 24]) (by decide) (by decide)) q2 (by decide) (by decide), Or.inr ⟨?_, ri_S_fr hS29 q2 (by decide)⟩, Or.inr ⟨?_, ?_, ri_S_fr hS29 q2 (by decide), ri_P_fr hP29 q2 (by decide)⟩, q3, fun hz => absurd hval hz, fun _ => ?_⟩
            · rw [q2.2 7 (by decide)]; exact e729
            · rw [q2.2 8 (by decide)]; exact e829
            · rw [q2.2 7 (by decide)]; exact e729
            · rw [e1_29] at q4; exact q4
          rcases hcs with rfl | rfl | rfl | rfl | rfl
          · exact po_st_mono (re_ft_0 hB29 hS29 hP29 ⟨b1, b2⟩) hfin
          · exact po_st_mono (re_ft_1 hB29 hS29 hP29 ⟨b1, b2⟩) hfin
          · exact po_st_mono (re_ft_2 hB29 hS29 hP29 ⟨b1, b2⟩) hfin
          · exact po_st_mono (re_ft_3 hB29 hS29 hP29 ⟨b1, b2⟩) hfin
          · exact po_st_mono (re_ft_4 hB29 hS29 hP29 ⟨b1, b2⟩) hfin
        · refine pg_br 2 (L := []) (P := pg_inR b ∧ pg_inR 4) (c := b = 4) (st1 := (41, [(0, .inr (.inr 0)), (1, .inl a), (2, .inl b)], [], rm g s n)) (st2 := (32, [(0, .inr (.inr 0)), (1, .inl a), (2, .inl b)], [], rm g s n)) rfl trivial ⟨⟨by omega, by omega⟩, ⟨by decide, by decide⟩⟩ (fun c_29_5 => ?_) (fun c_29_5 => ?_)
          · refine pg_ca 1 (L := []) (Mc := pm_T_findPlaces) (as := [.inr (.inr 0)]) (h0 := rm g s n) (pc := 45) (lv := [(0, .inr (.inr 0)), (1, .inl a), (2, .inl b)]) (rest := []) rfl trivial (re_findPlaces (g := g) hB hC hK hJ) ?_
            intro r_1 h_1 e_1; obtain ⟨er_, g30, eh_, ef30, e830, e730, hS30, hP30⟩ := e_1; rw [er_, eh_]; have hB30 := rm_B_fr hB ef30 (by decide); have hC30 := ri_C_fr hC ef30 (by decide)
            have e1_30 : g30 1 = g 1 := ef30.1 1 (by decide) (by decide)
            have hval : (0 ≤ a ∧ a ≤ 4) ∧ (a < 2 → b = 2 ∨ b = 3 ∨ b = 4 ∨ b = 6) := by omega
            have hcs : a = 0 ∨ a = 1 ∨ a = 2 ∨ a = 3 ∨ a = 4 := by omega
            have hfin : ∀ (r_ : Option pg_V) (h_ : pg_H), (∃ (g' : pg_H) (z : Int), h_ = rm g' s n ∧ rf [15] [15, 16, 23, 24] g30 g' ∧ r_ = some (.inl z) ∧ (a = 0 → z = mt_cc (g30 1) s n b 0) ∧ (a = 1 → z = mt_cc (g30 1) s n b 1) ∧ (a = 2 → ri_ec (g30 1) s n z) ∧ (a = 3 → (¬ mt_od (g30 1) s n ∧ z = 0) ∨ (mt_od (g30 1) s n ∧ ∃ e : Int, ri_ec (g30 1) s n e ∧ z = Int.tdiv (mt_lf (g30 1) s n e) 12)) ∧ (a = 4 → (mt_od (g30 1) s n ∧ z = 0) ∨ (¬ mt_od (g30 1) s n ∧ ∃ e : Int, ri_ec (g30 1) s n e ∧ z = Int.tdiv (Int.tdiv (mt_lf (g30 1) s n e) 12) 2))) → ∃ (g' : pg_H) (z : Int), h_ = rm g' s n ∧ rf [3, 4, 5, 6, 7, 8, 15] [6, 7, 8, 13, 15, 16, 23, 24] g g' ∧ ri_K g' s n ∧ ri_J g' s n ∧ r_ = some (.inl z) ∧ (¬ ((0 ≤ a ∧ a ≤ 4) ∧ (a < 2 → b = 2 ∨ b = 3 ∨ b = 4 ∨ b = 6)) → z = -2) ∧ ((0 ≤ a ∧ a ≤ 4) ∧ (a < 2 → b = 2 ∨ b = 3 ∨ b = 4 ∨ b = 6) → (a = 0 → z = mt_cc (g 1) s n b 0) ∧ (a = 1 → z = mt_cc (g 1) s n b 1) ∧ (a = 2 → ri_ec (g 1) s n z) ∧ (a = 3 → (¬ mt_od (g 1) s n ∧ z = 0) ∨ (mt_od (g 1) s n ∧ ∃ e : Int, ri_ec (g 1) s n e ∧ z = Int.tdiv (mt_lf (g 1) s n e) 12)) ∧ (a = 4 → (mt_od (g 1) s n ∧ z = 0) ∨ (¬ mt_od (g 1) s n ∧ ∃ e : Int, ri_ec (g 1) s n e ∧ z = Int.tdiv (Int.tdiv (mt_lf (g 1) s n e) 12) 2))) := by
              rintro r_ h_ ⟨g3, z, q1, q2, q3, q4⟩
              refine ⟨g3, z, q1, rf_tr (rf_w ef30 (cs := [3, 4, 5, 6, 7, 8, 15]) (fs := [6, 7, 8, 13, 15, 16, 23, 24]) (by decide) (by decide)) q2 (by decide) (by decide), Or.inr ⟨?_, ri_S_fr hS30 q2 (by decide)⟩, Or.inr ⟨?_, ?_, ri_S_fr hS30 q2 (by decide), ri_P_fr hP30 q2 (by decide)⟩, q3, fun hz => absurd hval hz, fun _ => ?_⟩
              · rw [q2.2 7 (by decide)]; exact e730
              · rw [q2.2 8 (by decide)]; exact e830
              · rw [q2.2 7 (by decide)]; exact e730
              · rw [e1_30] at q4; exact q4
            rcases hcs with rfl | rfl | rfl | rfl | rfl
            · exact po_st_mono (re_ft_0 hB30 hS30 hP30 ⟨b1, b2⟩) hfin
            · exact po_st_mono (re_ft_1 hB30 hS30 hP30 ⟨b1, b2⟩) hfin
            · exact po_st_mono (re_ft_2 hB30 hS30 hP30 ⟨b1, b2⟩) hfin
            · exact po_st_mono (re_ft_3 hB30 hS30 hP30 ⟨b1, b2⟩) hfin
            · exact po_st_mono (re_ft_4 hB30 hS30 hP30 ⟨b1, b2⟩) hfin
          · refine pg_br 2 (L := []) (P := pg_inR b ∧ pg_inR 6) (c := b = 6) (st1 := (41, [(0, .inr (.inr 0)), (1, .inl a), (2, .inl b)], [], rm g s n)) (st2 := (38, [(0, .inr (.inr 0)), (1, .inl a), (2, .inl b)], [], rm g s n)) rfl trivial ⟨⟨by omega, by omega⟩, ⟨by decide, by decide⟩⟩ (fun c_35_6 => ?_) (fun c_35_6 => ?_)
            · refine pg_ca 1 (L := []) (Mc := pm_T_findPlaces) (as := [.inr (.inr 0)]) (h0 := rm g s n) (pc := 45) (lv := [(0, .inr (.inr 0)), (1, .inl a), (2, .inl b)]) (rest := []) rfl trivial (re_findPlaces (g := g) hB hC hK hJ) ?_
              intro r_1 h_1 e_1; obtain ⟨er_, g31, eh_, ef31, e831, e731, hS31, hP31⟩ := e_1; rw [er_, eh_]; have hB31 := rm_B_fr hB ef31 (by decide); have hC31 := ri_C_fr hC ef31 (by decide)
              have e1_31 : g31 1 = g 1 := ef31.1 1 (by decide) (by decide)
              have hval : (0 ≤ a ∧ a ≤ 4) ∧ (a < 2 → b = 2 ∨ b = 3 ∨ b = 4 ∨ b = 6) := by omega
              have hcs : a = 0 ∨ a = 1 ∨ a = 2 ∨ a = 3 ∨ a = 4 := by omega
              have hfin : ∀ (r_ : Option pg_V) (h_ : pg_H), (∃ (g' : pg_H) (z : Int), h_ = rm g' s n ∧ rf [15] [15, 16, 23, 24] g31 g' ∧ r_ = some (.inl z) ∧ (a = 0 → z = mt_cc (g31 1) s n b 0) ∧ (a = 1 → z = mt_cc (g31 1) s n b 1) ∧ (a = 2 → ri_ec (g31 1) s n z) ∧ (a = 3 → (¬ mt_od (g31 1) s n ∧ z = 0) ∨ (mt_od (g31 1) s n ∧ ∃ e : Int, ri_ec (g31 1) s n e ∧ z = Int.tdiv (mt_lf (g31 1) s n e) 12)) ∧ (a = 4 → (mt_od (g31 1) s n ∧ z = 0) ∨ (¬ mt_od (g31 1) s n ∧ ∃ e : Int, ri_ec (g31 1) s n e ∧ z = Int.tdiv (Int.tdiv (mt_lf (g31 1) s n e) 12) 2))) → ∃ (g' : pg_H) (z : Int), h_ = rm g' s n ∧ rf [3, 4, 5, 6, 7, 8, 15] [6, 7, 8, 13, 15, 16, 23, 24] g g' ∧ ri_K g' s n ∧ ri_J g' s n ∧ r_ = some (.inl z) ∧ (¬ ((0 ≤ a ∧ a ≤ 4) ∧ (a < 2 → b = 2 ∨ b = 3 ∨ b = 4 ∨ b = 6)) → z = -2) ∧ ((0 ≤ a ∧ a ≤ 4) ∧ (a < 2 → b = 2 ∨ b = 3 ∨ b = 4 ∨ b = 6) → (a = 0 → z = mt_cc (g 1) s n b 0) ∧ (a = 1 → z = mt_cc (g 1) s n b 1) ∧ (a = 2 → ri_ec (g 1) s n z) ∧ (a = 3 → (¬ mt_od (g 1) s n ∧ z = 0) ∨ (mt_od (g 1) s n ∧ ∃ e : Int, ri_ec (g 1) s n e ∧ z = Int.tdiv (mt_lf (g 1) s n e) 12)) ∧ (a = 4 → (mt_od (g 1) s n ∧ z = 0) ∨ (¬ mt_od (g 1) s n ∧ ∃ e : Int, ri_ec (g 1) s n e ∧ z = Int.tdiv (Int.tdiv (mt_lf (g 1) s n e) 12) 2))) := by
                rintro r_ h_ ⟨g3, z, q1, q2, q3, q4⟩
                refine ⟨g3, z, q1, rf_tr (rf_w ef31 (cs := [3, 4, 5, 6, 7, 8, 15]) (fs := [6, 7, 8, 13, 15, 16, 23, 24]) (by decide) (by decide)) q2 (by decide) (by decide), Or.inr ⟨?_, ri_S_fr hS31 q2 (by decide)⟩, Or.inr ⟨?_, ?_, ri_S_fr hS31 q2 (by decide), ri_P_fr hP31 q2 (by decide)⟩, q3, fun hz => absurd hval hz, fun _ => ?_⟩
                · rw [q2.2 7 (by decide)]; exact e731
                · rw [q2.2 8 (by decide)]; exact e831
                · rw [q2.2 7 (by decide)]; exact e731
                · rw [e1_31] at q4; exact q4
              rcases hcs with rfl | rfl | rfl | rfl | rfl
              · exact po_st_mono (re_ft_0 hB31 hS31 hP31 ⟨b1, b2⟩) hfin
              · exact po_st_mono (re_ft_1 hB31 hS31 hP31 ⟨b1, b2⟩) hfin
              · exact po_st_mono (re_ft_2 hB31 hS31 hP31 ⟨b1, b2⟩) hfin
              · exact po_st_mono (re_ft_3 hB31 hS31 hP31 ⟨b1, b2⟩) hfin
              · exact po_st_mono (re_ft_4 hB31 hS31 hP31 ⟨b1, b2⟩) hfin
            · refine pg_re 1 (L := []) (r := some (.inl (-2))) (h0 := rm g s n) rfl trivial ?_
              exact ⟨g, -2, rfl, rf_rf _ _ _, hK, hJ, rfl, fun _ => rfl, fun hz => absurd hz (by omega)⟩
set_option maxRecDepth 20000 in
set_option maxHeartbeats 4000000 in
theorem re_kd_0 {g : pg_H} {s n : Int} (hB : rm_B g s n) (hS : ri_S g s n) (hP : ri_P g s n) {e : Int} (hbm : (mt_hm (g 1) s n (6 * n * (6 * n)).toNat ∧ e = 1) ∨ (¬ mt_hm (g 1) s n (6 * n * (6 * n)).toNat ∧ e = 0)) : pg_Good false pm_T_kind (fun r h' => r = some (.inl (mt_kd (g 1) s n (0 : Int))) ∧ h' = rm g s n) (13, [(0, .inr (.inr 0)), (1, .inl e)], [.inl 0], rm g s n) := by
  obtain ⟨hs, hn, hT⟩ := id hB
  obtain ⟨hn1, hn2⟩ := id hn
  have hr := mt_rd_or hs
  have h66 := mt_66 hn1 hn2
  have hN := mt_2rn hs hn
  refine pg_br 2 (L := [pg_inR 0]) (P := pg_inR e) (c := e = 0) (st1 := (181, [(0, .inr (.inr 0)), (1, .inl e)], [], rm g s n)) (st2 := (166, [(0, .inr (.inr 0)), (1, .inl e)], [], rm g s n)) rfl ⟨by decide, by decide⟩ ⟨by omega, by omega⟩ (fun c_163_1 => ?_) (fun c_163_1 => ?_)
  · refine pg_ca 1 (L := []) (Mc := pm_T_hasOdd) (as := [.inr (.inr 0)]) (h0 := rm g s n) (pc := 185) (lv := [(0, .inr (.inr 0)), (1, .inl e)]) (rest := []) rfl trivial (re_hasOdd (g := g) hB hS hP) ?_
    intro r_1 h_1 e_1; rw [e_1.1, e_1.2]; have hbo := pg_b_or (mt_od (g 1) s n)
    refine pg_br 0 (L := []) (P := pg_inR (pg_b (mt_od (g 1) s n))) (c := (pg_b (mt_od (g 1) s n)) = 0) (st1 := (192, [(0, .inr (.inr 0)), (1, .inl e)], [], rm g s n)) (st2 := (188, [(0, .inr (.inr 0)), (1, .inl e)], [], rm g s n)) rfl trivial ⟨by omega, by omega⟩ (fun c_185_2 => ?_) (fun c_185_2 => ?_)
    · refine pg_re 1 (L := []) (r := some (.inl 1)) (h0 := rm g s n) rfl trivial ?_
      refine ⟨?_, rfl⟩
      unfold mt_kd
      congr 2
      first | rw [if_pos (by decide)] | rw [if_neg (by decide), if_pos (by decide)] | rw [if_neg (by decide), if_neg (by decide), if_pos (by decide)] | rw [if_neg (by decide), if_neg (by decide), if_neg (by decide), if_pos (by decide)] | rw [if_neg (by decide), if_neg (by decide), if_neg (by decide), if_neg (by decide)]
      rcases hbm with ⟨y_, y__⟩ | ⟨y_, y__⟩ <;> first | (exfalso; omega) | skip
      rw [pg_if_f y_]
      rcases hbo with ⟨y_, y__⟩ | ⟨y_, y__⟩ <;> first | (exfalso; omega) | skip
      rw [pg_if_f y_]
    · refine pg_re 2 (L := []) (r := some (.inl 4)) (h0 := rm g s n) rfl trivial ?_
      refine ⟨?_, rfl⟩
      unfold mt_kd
      congr 2
      first | rw [if_pos (by decide)] | rw [if_neg (by decide), if_pos (by decide)] | rw [if_neg (by decide), if_neg (by decide), if_pos (by decide)] | rw [if_neg (by decide), if_neg (by decide), if_neg (by decide), if_pos (by decide)] | rw [if_neg (by decide), if_neg (by decide), if_neg (by decide), if_neg (by decide)]
      rcases hbm with ⟨y_, y__⟩ | ⟨y_, y__⟩ <;> first | (exfalso; omega) | skip
      rw [pg_if_f y_]
      rcases hbo with ⟨y_, y__⟩ | ⟨y_, y__⟩ <;> first | (exfalso; omega) | skip
      rw [pg_if_t y_]
  · refine pg_ca 1 (L := []) (Mc := pm_T_hasGlides) (as := [.inr (.inr 0)]) (h0 := rm g s n) (pc := 170) (lv := [(0, .inr (.inr 0)), (1, .inl e)]) (rest := []) rfl trivial (re_hasGlides (g := g) hB hS hP) ?_
    intro r_1 h_1 e_1; rw [e_1.1, e_1.2]; have hbg := pg_b_or (mt_hg (g 1) s n)
    refine pg_br 0 (L := []) (P := pg_inR (pg_b (mt_hg (g 1) s n))) (c := (pg_b (mt_hg (g 1) s n)) = 0) (st1 := (177, [(0, .inr (.inr 0)), (1, .inl e)], [], rm g s n)) (st2 := (173, [(0, .inr (.inr 0)), (1, .inl e)], [], rm g s n)) rfl trivial ⟨by omega, by omega⟩ (fun c_170_3 => ?_) (fun c_170_3 => ?_)
    · refine pg_re 2 (L := []) (r := some (.inl 3)) (h0 := rm g s n) rfl trivial ?_
      refine ⟨?_, rfl⟩
      unfold mt_kd
      congr 2
      first | rw [if_pos (by decide)] | rw [if_neg (by decide), if_pos (by decide)] | rw [if_neg (by decide), if_neg (by decide), if_pos (by decide)] | rw [if_neg (by decide), if_neg (by decide), if_neg (by decide), if_pos (by decide)] | rw [if_neg (by decide), if_neg (by decide), if_neg (by decide), if_neg (by decide)]
      rcases hbm with ⟨y_, y__⟩ | ⟨y_, y__⟩ <;> first | (exfalso; omega) | skip
      rw [pg_if_t y_]
      rcases hbg with ⟨y_, y__⟩ | ⟨y_, y__⟩ <;> first | (exfalso; omega) | skip
      rw [pg_if_f y_]
    · refine pg_re 2 (L := []) (r := some (.inl 5)) (h0 := rm g s n) rfl trivial ?_
      refine ⟨?_, rfl⟩
      unfold mt_kd
      congr 2
      first | rw [if_pos (by decide)] | rw [if_neg (by decide), if_pos (by decide)] | rw [if_neg (by decide), if_neg (by decide), if_pos (by decide)] | rw [if_neg (by decide), if_neg (by decide), if_neg (by decide), if_pos (by decide)] | rw [if_neg (by decide), if_neg (by decide), if_neg (by decide), if_neg (by decide)]
      rcases hbm with ⟨y_, y__⟩ | ⟨y_, y__⟩ <;> first | (exfalso; omega) | skip
      rw [pg_if_t y_]
      rcases hbg with ⟨y_, y__⟩ | ⟨y_, y__⟩ <;> first | (exfalso; omega) | skip
      rw [pg_if_t y_]
set_option maxRecDepth 20000 in
set_option maxHeartbeats 4000000 in
theorem re_kd_1 {g : pg_H} {s n : Int} (hB : rm_B g s n) (hS : ri_S g s n) (hP : ri_P g s n) {e : Int} (hbm : (mt_hm (g 1) s n (6 * n * (6 * n)).toNat ∧ e = 1) ∨ (¬ mt_hm (g 1) s n (6 * n * (6 * n)).toNat ∧ e = 0)) : pg_Good false pm_T_kind (fun r h' => r = some (.inl (mt_kd (g 1) s n (1 : Int))) ∧ h' = rm g s n) (13, [(0, .inr (.inr 0)), (1, .inl e)], [.inl 1], rm g s n) := by
  obtain ⟨hs, hn, hT⟩ := id hB
  obtain ⟨hn1, hn2⟩ := id hn
  have hr := mt_rd_or hs
  have h66 := mt_66 hn1 hn2
  have hN := mt_2rn hs hn
  refine pg_br 2 (L := [pg_inR 1]) (P := pg_inR e) (c := e = 0) (st1 := (181, [(0, .inr (.inr 0)), (1, .inl e)], [], rm g s n)) (st2 := (166, [(0, .inr (.inr 0)), (1, .inl e)], [], rm g s n)) rfl ⟨by decide, by decide⟩ ⟨by omega, by omega⟩ (fun c_163_1 => ?_) (fun c_163_1 => ?_)
  · refine pg_ca 1 (L := []) (Mc := pm_T_hasOdd) (as := [.inr (.inr 0)]) (h0 := rm g s n) (pc := 185) (lv := [(0, .inr (.inr 0)), (1, .inl e)]) (rest := []) rfl trivial (re_hasOdd (g := g) hB hS hP) ?_
    intro r_1 h_1 e_1; rw [e_1.1, e_1.2]; have hbo := pg_b_or (mt_od (g 1) s n)
    refine pg_br 0 (L := []) (P := pg_inR (pg_b (mt_od (g 1) s n))) (c := (pg_b (mt_od (g 1) s n)) = 0) (st1 := (192, [(0, .inr (.inr 0)), (1, .inl e)], [], rm g s n)) (st2 := (188, [(0, .inr (.inr 0)), (1, .inl e)], [], rm g s n)) rfl trivial ⟨by omega, by omega⟩ (fun c_185_2 => ?_) (fun c_185_2 => ?_)
    · refine pg_re 1 (L := []) (r := some (.inl 1)) (h0 := rm g s n) rfl trivial ?_
      refine ⟨?_, rfl⟩
      unfold mt_kd
      congr 2
      first | rw [if_pos (by decide)] | rw [if_neg (by decide), if_pos (by decide)] | rw [if_neg (by decide), if_neg (by decide), if_pos (by decide)] | rw [if_neg (by decide), if_neg (by decide), if_neg (by decide), if_pos (by decide)] | rw [if_neg (by decide), if_neg (by decide), if_neg (by decide), if_neg (by decide)]
      rcases hbm with ⟨y_, y__⟩ | ⟨y_, y__⟩ <;> first | (exfalso; omega) | skip
      rw [pg_if_f y_]
      rcases hbo with ⟨y_, y__⟩ | ⟨y_, y__⟩ <;> first | (exfalso; omega) | skip
      rw [pg_if_f y_]
    · refine pg_re 2 (L := []) (r := some (.inl 4)) (h0 := rm g s n) rfl trivial ?_
      refine ⟨?_, rfl⟩
      unfold mt_kd
      congr 2
      first | rw [if_pos (by decide)] | rw [if_neg (by decide), if_pos (by decide)] | rw [if_neg (by decide), if_neg (by decide), if_pos (by decide)] | rw [if_neg (by decide), if_neg (by decide), if_neg (by decide), if_pos (by decide)] | rw [if_neg (by decide), if_neg (by decide), if_neg (by decide), if_neg (by decide)]
      rcases hbm with ⟨y_, y__⟩ | ⟨y_, y__⟩ <;> first | (exfalso; omega) | skip
      rw [pg_if_f y_]
      rcases hbo with ⟨y_, y__⟩ | ⟨y_, y__⟩ <;> first | (exfalso; omega) | skip
      rw [pg_if_t y_]
  · refine pg_ca 1 (L := []) (Mc := pm_T_hasGlides) (as := [.inr (.inr 0)]) (h0 := rm g s n) (pc := 170) (lv := [(0, .inr (.inr 0)), (1, .inl e)]) (rest := []) rfl trivial (re_hasGlides (g := g) hB hS hP) ?_
    intro r_1 h_1 e_1; rw [e_1.1, e_1.2]; have hbg := pg_b_or (mt_hg (g 1) s n)
    refine pg_br 0 (L := []) (P := pg_inR (pg_b (mt_hg (g 1) s n))) (c := (pg_b (mt_hg (g 1) s n)) = 0) (st1 := (177, [(0, .inr (.inr 0)), (1, .inl e)], [], rm g s n)) (st2 := (173, [(0, .inr (.inr 0)), (1, .inl e)], [], rm g s n)) rfl trivial ⟨by omega, by omega⟩ (fun c_170_3 => ?_) (fun c_170_3 => ?_)
    · refine pg_re 2 (L := []) (r := some (.inl 3)) (h0 := rm g s n) rfl trivial ?_
      refine ⟨?_, rfl⟩
      unfold mt_kd
      congr 2
      first | rw [if_pos (by decide)] | rw [if_neg (by decide), if_pos (by decide)] | rw [if_neg (by decide), if_neg (by decide), if_pos (by decide)] | rw [if_neg (by decide), if_neg (by decide), if_neg (by decide), if_pos (by decide)] | rw [if_neg (by decide), if_neg (by decide), if_neg (by decide), if_neg (by decide)]
      rcases hbm with ⟨y_, y__⟩ | ⟨y_, y__⟩ <;> first | (exfalso; omega) | skip
      rw [pg_if_t y_]
      rcases hbg with ⟨y_, y__⟩ | ⟨y_, y__⟩ <;> first | (exfalso; omega) | skip
      rw [pg_if_f y_]
    · refine pg_re 2 (L := []) (r := some (.inl 5)) (h0 := rm g s n) rfl trivial ?_
      refine ⟨?_, rfl⟩
      unfold mt_kd
      congr 2
      first | rw [if_pos (by decide)] | rw [if_neg (by decide), if_pos (by decide)] | rw [if_neg (by decide), if_neg (by decide), if_pos (by decide)] | rw [if_neg (by decide), if_neg (by decide), if_neg (by decide), if_pos (by decide)] | rw [if_neg (by decide), if_neg (by decide), if_neg (by decide), if_neg (by decide)]
      rcases hbm with ⟨y_, y__⟩ | ⟨y_, y__⟩ <;> first | (exfalso; omega) | skip
      rw [pg_if_t y_]
      rcases hbg with ⟨y_, y__⟩ | ⟨y_, y__⟩ <;> first | (exfalso; omega) | skip
      rw [pg_if_t y_]
set_option maxRecDepth 20000 in
set_option maxHeartbeats 4000000 in
theorem re_kd_2 {g : pg_H} {s n : Int} (hB : rm_B g s n) (hS : ri_S g s n) (hP : ri_P g s n) {e : Int} (hbm : (mt_hm (g 1) s n (6 * n * (6 * n)).toNat ∧ e = 1) ∨ (¬ mt_hm (g 1) s n (6 * n * (6 * n)).toNat ∧ e = 0)) : pg_Good false pm_T_kind (fun r h' => r = some (.inl (mt_kd (g 1) s n (2 : Int))) ∧ h' = rm g s n) (13, [(0, .inr (.inr 0)), (1, .inl e)], [.inl 2], rm g s n) := by
  obtain ⟨hs, hn, hT⟩ := id hB
  obtain ⟨hn1, hn2⟩ := id hn
  have hr := mt_rd_or hs
  have h66 := mt_66 hn1 hn2
  have hN := mt_2rn hs hn
  refine pg_br 2 (L := [pg_inR 2]) (P := pg_inR e) (c := e = 0) (st1 := (148, [(0, .inr (.inr 0)), (1, .inl e)], [], rm g s n)) (st2 := (116, [(0, .inr (.inr 0)), (1, .inl e)], [], rm g s n)) rfl ⟨by decide, by decide⟩ ⟨by omega, by omega⟩ (fun c_113_1 => ?_) (fun c_113_1 => ?_)
  · refine pg_ca 1 (L := []) (Mc := pm_T_hasOdd) (as := [.inr (.inr 0)]) (h0 := rm g s n) (pc := 152) (lv := [(0, .inr (.inr 0)), (1, .inl e)]) (rest := []) rfl trivial (re_hasOdd (g := g) hB hS hP) ?_
    intro r_1 h_1 e_1; rw [e_1.1, e_1.2]; have hbo := pg_b_or (mt_od (g 1) s n)
    refine pg_br 0 (L := []) (P := pg_inR (pg_b (mt_od (g 1) s n))) (c := (pg_b (mt_od (g 1) s n)) = 0) (st1 := (160, [(0, .inr (.inr 0)), (1, .inl e)], [], rm g s n)) (st2 := (155, [(0, .inr (.inr 0)), (1, .inl e)], [], rm g s n)) rfl trivial ⟨by omega, by omega⟩ (fun c_152_2 => ?_) (fun c_152_2 => ?_)
    · refine pg_re 1 (L := []) (r := some (.inl 2)) (h0 := rm g s n) rfl trivial ?_
      refine ⟨?_, rfl⟩
      unfold mt_kd
      congr 2
      first | rw [if_pos (by decide)] | rw [if_neg (by decide), if_pos (by decide)] | rw [if_neg (by decide), if_neg (by decide), if_pos (by decide)] | rw [if_neg (by decide), if_neg (by decide), if_neg (by decide), if_pos (by decide)] | rw [if_neg (by decide), if_neg (by decide), if_neg (by decide), if_neg (by decide)]
      rcases hbm with ⟨y_, y__⟩ | ⟨y_, y__⟩ <;> first | (exfalso; omega) | skip
      rw [pg_if_f y_]
      rcases hbo with ⟨y_, y__⟩ | ⟨y_, y__⟩ <;> first | (exfalso; omega) | skip
      rw [pg_if_f y_]
    · refine pg_re 2 (L := []) (r := some (.inl 8)) (h0 := rm g s n) rfl trivial ?_
      refine ⟨?_, rfl⟩
      unfold mt_kd
      congr 2
      first | rw [if_pos (by decide)] | rw [if_neg (by decide), if_pos (by decide)] | rw [if_neg (by decide), if_neg (by decide), if_pos (by decide)] | rw [if_neg (by decide), if_neg (by decide), if_neg (by decide), if_pos (by decide)] | rw [if_neg (by decide), if_neg (by decide), if_neg (by decide), if_neg (by decide)]
      rcases hbm with ⟨y_, y__⟩ | ⟨y_, y__⟩ <;> first | (exfalso; omega) | skip
      rw [pg_if_f y_]
      rcases hbo with ⟨y_, y__⟩ | ⟨y_, y__⟩ <;> first | (exfalso; omega) | skip
      rw [pg_if_t y_]
  · refine pg_ca 1 (L := []) (Mc := pm_T_mirrorWays) (as := [.inr (.inr 0)]) (h0 := rm g s n) (pc := 120) (lv := [(0, .inr (.inr 0)), (1, .inl e)]) (rest := []) rfl trivial (re_mirrorWays (g := g) hB hS hP) ?_
    intro r_1 h_1 e_1; rw [e_1.1, e_1.2]; have hwb := pg_cn_bd (fun t => mt_mk (g 1) s n ((mt_rd s).toNat + t) (6 * n * (6 * n)).toNat) (mt_rd s).toNat; have hwi : mt_mw (g 1) s n ↔ pg_cn (fun t => mt_mk (g 1) s n ((mt_rd s).toNat + t) (6 * n * (6 * n)).toNat) (mt_rd s).toNat < 2 := Iff.rfl; have hbw := pg_b_or (mt_mw (g 1) s n)
    refine pg_br 1 (L := []) (P := pg_inR (pg_cn (fun t => mt_mk (g 1) s n ((mt_rd s).toNat + t) (6 * n * (6 * n)).toNat) (mt_rd s).toNat) ∧ pg_inR 2) (c := 2 ≤ (pg_cn (fun t => mt_mk (g 1) s n ((mt_rd s).toNat + t) (6 * n * (6 * n)).toNat) (mt_rd s).toNat)) (st1 := (129, [(0, .inr (.inr 0)), (1, .inl e)], [], rm g s n)) (st2 := (124, [(0, .inr (.inr 0)), (1, .inl e)], [], rm g s n)) rfl trivial ⟨⟨by omega, by omega⟩, ⟨by decide, by decide⟩⟩ (fun c_121_3 => ?_) (fun c_121_3 => ?_)
    · refine pg_ca 3 (L := []) (Mc := pm_T_hasPlace) (as := [.inr (.inr 0), .inl 2, .inl 0]) (h0 := rm g s n) (pc := 135) (lv := [(0, .inr (.inr 0)), (1, .inl e)]) (rest := []) rfl trivial (re_hasPlace (g := g) hB hS hP 2 0 ⟨by decide, by decide⟩ (by decide)) ?_
      intro r_1 h_1 e_1; rw [e_1.1, e_1.2]; have hbp := pg_b_or (mt_hp (g 1) s n 2 0 (6 * n * (6 * n)).toNat)
      refine pg_br 0 (L := []) (P := pg_inR (pg_b (mt_hp (g 1) s n 2 0 (6 * n * (6 * n)).toNat))) (c := (pg_b (mt_hp (g 1) s n 2 0 (6 * n * (6 * n)).toNat)) = 0) (st1 := (143, [(0, .inr (.inr 0)), (1, .inl e)], [], rm g s n)) (st2 := (138, [(0, .inr (.inr 0)), (1, .inl e)], [], rm g s n)) rfl trivial ⟨by omega, by omega⟩ (fun c_135_4 => ?_) (fun c_135_4 => ?_)
      · refine pg_re 2 (L := []) (r := some (.inl 6)) (h0 := rm g s n) rfl trivial ?_
        refine ⟨?_, rfl⟩
        unfold mt_kd
        congr 2
        first | rw [if_pos (by decide)] | rw [if_neg (by decide), if_pos (by decide)] | rw [if_neg (by decide), if_neg (by decide), if_pos (by decide)] | rw [if_neg (by decide), if_neg (by decide), if_neg (by decide), if_pos (by decide)] | rw [if_neg (by decide), if_neg (by decide), if_neg (by decide), if_neg (by decide)]
        rcases hbm with ⟨y_, y__⟩ | ⟨y_, y__⟩ <;> first | (exfalso; omega) | skip
        rw [pg_if_t y_]
        rw [pg_if_f (by rw [hwi]; omega)]
        rcases hbp with ⟨y_, y__⟩ | ⟨y_, y__⟩ <;> first | (exfalso; omega) | skip
        rw [pg_if_f y_]
      · refine pg_re 2 (L := []) (r := some (.inl 9)) (h0 := rm g s n) rfl trivial ?_
        refine ⟨?_, rfl⟩
        unfold mt_kd
        congr 2
        first | rw [if_pos (by decide)] | rw [if_neg (by decide), if_pos (by decide)] | rw [if_neg (by decide), if_neg (by decide), if_pos (by decide)] | rw [if_neg (by decide), if_neg (by decide), if_neg (by decide), if_pos (by decide)] | rw [if_neg (by decide), if_neg (by decide), if_neg (by decide), if_neg (by decide)]
        rcases hbm with ⟨y_, y__⟩ | ⟨y_, y__⟩ <;> first | (exfalso; omega) | skip
        rw [pg_if_t y_]
        rw [pg_if_f (by rw [hwi]; omega)]
        rcases hbp with ⟨y_, y__⟩ | ⟨y_, y__⟩ <;> first | (exfalso; omega) | skip
        rw [pg_if_t y_]
    · refine pg_re 2 (L := []) (r := some (.inl 7)) (h0 := rm g s n) rfl trivial ?_
      refine ⟨?_, rfl⟩
      unfold mt_kd
      congr 2
      first | rw [if_pos (by decide)] | rw [if_neg (by decide), if_pos (by decide)] | rw [if_neg (by decide), if_neg (by decide), if_pos (by decide)] | rw [if_neg (by decide), if_neg (by decide), if_neg (by decide), if_pos (by decide)] | rw [if_neg (by decide), if_neg (by decide), if_neg (by decide), if_neg (by decide)]
      rcases hbm with ⟨y_, y__⟩ | ⟨y_, y__⟩ <;> first | (exfalso; omega) | skip
      rw [pg_if_t y_]
      rw [pg_if_t (by rw [hwi]; omega)]
set_option maxRecDepth 20000 in
set_option maxHeartbeats 4000000 in
theorem re_kd_3 {g : pg_H} {s n : Int} (hB : rm_B g s n) (hS : ri_S g s n) (hP : ri_P g s n) {e : Int} (hbm : (mt_hm (g 1) s n (6 * n * (6 * n)).toNat ∧ e = 1) ∨ (¬ mt_hm (g 1) s n (6 * n * (6 * n)).toNat ∧ e = 0)) : pg_Good false pm_T_kind (fun r h' => r = some (.inl (mt_kd (g 1) s n (3 : Int))) ∧ h' = rm g s n) (13, [(0, .inr (.inr 0)), (1, .inl e)], [.inl 3], rm g s n) := by
  obtain ⟨hs, hn, hT⟩ := id hB
  obtain ⟨hn1, hn2⟩ := id hn
  have hr := mt_rd_or hs
  have h66 := mt_66 hn1 hn2
  have hN := mt_2rn hs hn
  refine pg_br 2 (L := [pg_inR 3]) (P := pg_inR e) (c := ¬ e = 0) (st1 := (95, [(0, .inr (.inr 0)), (1, .inl e)], [], rm g s n)) (st2 := (90, [(0, .inr (.inr 0)), (1, .inl e)], [], rm g s n)) rfl ⟨by decide, by decide⟩ ⟨by omega, by omega⟩ (fun c_87_1 => ?_) (fun c_87_1 => ?_)
  · refine pg_ca 3 (L := []) (Mc := pm_T_hasPlace) (as := [.inr (.inr 0), .inl 3, .inl 0]) (h0 := rm g s n) (pc := 101) (lv := [(0, .inr (.inr 0)), (1, .inl e)]) (rest := []) rfl trivial (re_hasPlace (g := g) hB hS hP 3 0 ⟨by decide, by decide⟩ (by decide)) ?_
    intro r_1 h_1 e_1; rw [e_1.1, e_1.2]; have hbp := pg_b_or (mt_hp (g 1) s n 3 0 (6 * n * (6 * n)).toNat)
    refine pg_br 0 (L := []) (P := pg_inR (pg_b (mt_hp (g 1) s n 3 0 (6 * n * (6 * n)).toNat))) (c := (pg_b (mt_hp (g 1) s n 3 0 (6 * n * (6 * n)).toNat)) = 0) (st1 := (109, [(0, .inr (.inr 0)), (1, .inl e)], [], rm g s n)) (st2 := (104, [(0, .inr (.inr 0)), (1, .inl e)], [], rm g s n)) rfl trivial ⟨by omega, by omega⟩ (fun c_101_2 => ?_) (fun c_101_2 => ?_)
    · refine pg_re 1 (L := []) (r := some (.inl 14)) (h0 := rm g s n) rfl trivial ?_
      refine ⟨?_, rfl⟩
      unfold mt_kd
      congr 2
      first | rw [if_pos (by decide)] | rw [if_neg (by decide), if_pos (by decide)] | rw [if_neg (by decide), if_neg (by decide), if_pos (by decide)] | rw [if_neg (by decide), if_neg (by decide), if_neg (by decide), if_pos (by decide)] | rw [if_neg (by decide), if_neg (by decide), if_neg (by decide), if_neg (by decide)]
      rcases hbm with ⟨y_, y__⟩ | ⟨y_, y__⟩ <;> first | (exfalso; omega) | skip
      rw [pg_if_t y_]
      rcases hbp with ⟨y_, y__⟩ | ⟨y_, y__⟩ <;> first | (exfalso; omega) | skip
      rw [pg_if_f y_]
    · refine pg_re 2 (L := []) (r := some (.inl 15)) (h0 := rm g s n) rfl trivial ?_
      refine ⟨?_, rfl⟩
      unfold mt_kd
      congr 2
      first | rw [if_pos (by decide)] | rw [if_neg (by decide), if_pos (by decide)] | rw [if_neg (by decide), if_neg (by decide), if_pos (by decide)] | rw [if_neg (by decide), if_neg (by decide), if_neg (by decide), if_pos (by decide)] | rw [if_neg (by decide), if_neg (by decide), if_neg (by decide), if_neg (by decide)]
      rcases hbm with ⟨y_, y__⟩ | ⟨y_, y__⟩ <;> first | (exfalso; omega) | skip
      rw [pg_if_t y_]
      rcases hbp with ⟨y_, y__⟩ | ⟨y_, y__⟩ <;> first | (exfalso; omega) | skip
      rw [pg_if_t y_]
  · refine pg_re 2 (L := []) (r := some (.inl 13)) (h0 := rm g s n) rfl trivial ?_
    refine ⟨?_, rfl⟩
    unfold mt_kd
    congr 2
    first | rw [if_pos (by decide)] | rw [if_neg (by decide), if_pos (by decide)] | rw [if_neg (by decide), if_neg (by decide), if_pos (by decide)] | rw [if_neg (by decide), if_neg (by decide), if_neg (by decide), if_pos (by decide)] | rw [if_neg (by decide), if_neg (by decide), if_neg (by decide), if_neg (by decide)]
    rcases hbm with ⟨y_, y__⟩ | ⟨y_, y__⟩ <;> first | (exfalso; omega) | skip
    rw [pg_if_f y_]
set_option maxRecDepth 20000 in
set_option maxHeartbeats 4000000 in
theorem re_kd_4 {g : pg_H} {s n : Int} (hB : rm_B g s n) (hS : ri_S g s n) (hP : ri_P g s n) {e : Int} (hbm : (mt_hm (g 1) s n (6 * n * (6 * n)).toNat ∧ e = 1) ∨ (¬ mt_hm (g 1) s n (6 * n * (6 * n)).toNat ∧ e = 0)) : pg_Good false pm_T_kind (fun r h' => r = some (.inl (mt_kd (g 1) s n (4 : Int))) ∧ h' = rm g s n) (13, [(0, .inr (.inr 0)), (1, .inl e)], [.inl 4], rm g s n) := by
  obtain ⟨hs, hn, hT⟩ := id hB
  obtain ⟨hn1, hn2⟩ := id hn
  have hr := mt_rd_or hs
  have h66 := mt_66 hn1 hn2
  have hN := mt_2rn hs hn
  refine pg_br 2 (L := [pg_inR 4]) (P := pg_inR e) (c := ¬ e = 0) (st1 := (69, [(0, .inr (.inr 0)), (1, .inl e)], [], rm g s n)) (st2 := (64, [(0, .inr (.inr 0)), (1, .inl e)], [], rm g s n)) rfl ⟨by decide, by decide⟩ ⟨by omega, by omega⟩ (fun c_61_1 => ?_) (fun c_61_1 => ?_)
  · refine pg_ca 3 (L := []) (Mc := pm_T_hasPlace) (as := [.inr (.inr 0), .inl 4, .inl 1]) (h0 := rm g s n) (pc := 75) (lv := [(0, .inr (.inr 0)), (1, .inl e)]) (rest := []) rfl trivial (re_hasPlace (g := g) hB hS hP 4 1 ⟨by decide, by decide⟩ (by decide)) ?_
    intro r_1 h_1 e_1; rw [e_1.1, e_1.2]; have hbp := pg_b_or (mt_hp (g 1) s n 4 1 (6 * n * (6 * n)).toNat)
    refine pg_br 0 (L := []) (P := pg_inR (pg_b (mt_hp (g 1) s n 4 1 (6 * n * (6 * n)).toNat))) (c := (pg_b (mt_hp (g 1) s n 4 1 (6 * n * (6 * n)).toNat)) = 0) (st1 := (83, [(0, .inr (.inr 0)), (1, .inl e)], [], rm g s n)) (st2 := (78, [(0, .inr (.inr 0)), (1, .inl e)], [], rm g s n)) rfl trivial ⟨by omega, by omega⟩ (fun c_75_2 => ?_) (fun c_75_2 => ?_)
    · refine pg_re 1 (L := []) (r := some (.inl 12)) (h0 := rm g s n) rfl trivial ?_
      refine ⟨?_, rfl⟩
      unfold mt_kd
      congr 2
      first | rw [if_pos (by decide)] | rw [if_neg (by decide), if_pos (by decide)] | rw [if_neg (by decide), if_neg (by decide), if_pos (by decide)] | rw [if_neg (by decide), if_neg (by decide), if_neg (by decide), if_pos (by decide)] | rw [if_neg (by decide), if_neg (by decide), if_neg (by decide), if_neg (by decide)]
      rcases hbm with ⟨y_, y__⟩ | ⟨y_, y__⟩ <;> first | (exfalso; omega) | skip
      rw [pg_if_t y_]
      rcases hbp with ⟨y_, y__⟩ | ⟨y_, y__⟩ <;> first | (exfalso; omega) | skip
      rw [pg_if_f y_]
    · refine pg_re 2 (L := []) (r := some (.inl 11)) (h0 := rm g s n) rfl trivial ?_
      refine ⟨?_, rfl⟩
      unfold mt_kd
      congr 2
      first | rw [if_pos (by decide)] | rw [if_neg (by decide), if_pos (by decide)] | rw [if_neg (by decide), if_neg (by decide), if_pos (by decide)] | rw [if_neg (by decide), if_neg (by decide), if_neg (by decide), if_pos (by decide)] | rw [if_neg (by decide), if_neg (by decide), if_neg (by decide), if_neg (by decide)]
      rcases hbm with ⟨y_, y__⟩ | ⟨y_, y__⟩ <;> first | (exfalso; omega) | skip
      rw [pg_if_t y_]
      rcases hbp with ⟨y_, y__⟩ | ⟨y_, y__⟩ <;> first | (exfalso; omega) | skip
      rw [pg_if_t y_]
  · refine pg_re 2 (L := []) (r := some (.inl 10)) (h0 := rm g s n) rfl trivial ?_
    refine ⟨?_, rfl⟩
    unfold mt_kd
    congr 2
    first | rw [if_pos (by decide)] | rw [if_neg (by decide), if_pos (by decide)] | rw [if_neg (by decide), if_neg (by decide), if_pos (by decide)] | rw [if_neg (by decide), if_neg (by decide), if_neg (by decide), if_pos (by decide)] | rw [if_neg (by decide), if_neg (by decide), if_neg (by decide), if_neg (by decide)]
    rcases hbm with ⟨y_, y__⟩ | ⟨y_, y__⟩ <;> first | (exfalso; omega) | skip
    rw [pg_if_f y_]
set_option maxRecDepth 20000 in
set_option maxHeartbeats 4000000 in
theorem re_kd_5 {g : pg_H} {s n : Int} (hB : rm_B g s n) (hS : ri_S g s n) (hP : ri_P g s n) {e : Int} (hbm : (mt_hm (g 1) s n (6 * n * (6 * n)).toNat ∧ e = 1) ∨ (¬ mt_hm (g 1) s n (6 * n * (6 * n)).toNat ∧ e = 0)) : pg_Good false pm_T_kind (fun r h' => r = some (.inl (mt_kd (g 1) s n (5 : Int))) ∧ h' = rm g s n) (13, [(0, .inr (.inr 0)), (1, .inl e)], [.inl 5], rm g s n) := by
  obtain ⟨hs, hn, hT⟩ := id hB
  obtain ⟨hn1, hn2⟩ := id hn
  have hr := mt_rd_or hs
  have h66 := mt_66 hn1 hn2
  have hN := mt_2rn hs hn
  refine pg_br 2 (L := [pg_inR 5]) (P := pg_inR e) (c := e = 0) (st1 := (181, [(0, .inr (.inr 0)), (1, .inl e)], [], rm g s n)) (st2 := (166, [(0, .inr (.inr 0)), (1, .inl e)], [], rm g s n)) rfl ⟨by decide, by decide⟩ ⟨by omega, by omega⟩ (fun c_163_1 => ?_) (fun c_163_1 => ?_)
  · refine pg_ca 1 (L := []) (Mc := pm_T_hasOdd) (as := [.inr (.inr 0)]) (h0 := rm g s n) (pc := 185) (lv := [(0, .inr (.inr 0)), (1, .inl e)]) (rest := []) rfl trivial (re_hasOdd (g := g) hB hS hP) ?_
    intro r_1 h_1 e_1; rw [e_1.1, e_1.2]; have hbo := pg_b_or (mt_od (g 1) s n)
    refine pg_br 0 (L := []) (P := pg_inR (pg_b (mt_od (g 1) s n))) (c := (pg_b (mt_od (g 1) s n)) = 0) (st1 := (192, [(0, .inr (.inr 0)), (1, .inl e)], [], rm g s n)) (st2 := (188, [(0, .inr (.inr 0)), (1, .inl e)], [], rm g s n)) rfl trivial ⟨by omega, by omega⟩ (fun c_185_2 => ?_) (fun c_185_2 => ?_)
    · refine pg_re 1 (L := []) (r := some (.inl 1)) (h0 := rm g s n) rfl trivial ?_
      refine ⟨?_, rfl⟩
      unfold mt_kd
      congr 2
      first | rw [if_pos (by decide)] | rw [if_neg (by decide), if_pos (by decide)] | rw [if_neg (by decide), if_neg (by decide), if_pos (by decide)] | rw [if_neg (by decide), if_neg (by decide), if_neg (by decide), if_pos (by decide)] | rw [if_neg (by decide), if_neg (by decide), if_neg (by decide), if_neg (by decide)]
      rcases hbm with ⟨y_, y__⟩ | ⟨y_, y__⟩ <;> first | (exfalso; omega) | skip
      rw [pg_if_f y_]
      rcases hbo with ⟨y_, y__⟩ | ⟨y_, y__⟩ <;> first | (exfalso; omega) | skip
      rw [pg_if_f y_]
    · refine pg_re 2 (L := []) (r := some (.inl 4)) (h0 := rm g s n) rfl trivial ?_
      refine ⟨?_, rfl⟩
      unfold mt_kd
      congr 2
      first | rw [if_pos (by decide)] | rw [if_neg (by decide), if_pos (by decide)] | rw [if_neg (by decide), if_neg (by decide), if_pos (by decide)] | rw [if_neg (by decide), if_neg (by decide), if_neg (by decide), if_pos (by decide)] | rw [if_neg (by decide), if_neg (by decide), if_neg (by decide), if_neg (by decide)]
      rcases hbm with ⟨y_, y__⟩ | ⟨y_, y__⟩ <;> first | (exfalso; omega) | skip
      rw [pg_if_f y_]
      rcases hbo with ⟨y_, y__⟩ | ⟨y_, y__⟩ <;> first | (exfalso; omega) | skip
      rw [pg_if_t y_]
  · refine pg_ca 1 (L := []) (Mc := pm_T_hasGlides) (as := [.inr (.inr 0)]) (h0 := rm g s n) (pc := 170) (lv := [(0, .inr (.inr 0)), (1, .inl e)]) (rest := []) rfl trivial (re_hasGlides (g := g) hB hS hP) ?_
    intro r_1 h_1 e_1; rw [e_1.1, e_1.2]; have hbg := pg_b_or (mt_hg (g 1) s n)
    refine pg_br 0 (L := []) (P := pg_inR (pg_b (mt_hg (g 1) s n))) (c := (pg_b (mt_hg (g 1) s n)) = 0) (st1 := (177, [(0, .inr (.inr 0)), (1, .inl e)], [], rm g s n)) (st2 := (173, [(0, .inr (.inr 0)), (1, .inl e)], [], rm g s n)) rfl trivial ⟨by omega, by omega⟩ (fun c_170_3 => ?_) (fun c_170_3 => ?_)
    · refine pg_re 2 (L := []) (r := some (.inl 3)) (h0 := rm g s n) rfl trivial ?_
      refine ⟨?_, rfl⟩
      unfold mt_kd
      congr 2
      first | rw [if_pos (by decide)] | rw [if_neg (by decide), if_pos (by decide)] | rw [if_neg (by decide), if_neg (by decide), if_pos (by decide)] | rw [if_neg (by decide), if_neg (by decide), if_neg (by decide), if_pos (by decide)] | rw [if_neg (by decide), if_neg (by decide), if_neg (by decide), if_neg (by decide)]
      rcases hbm with ⟨y_, y__⟩ | ⟨y_, y__⟩ <;> first | (exfalso; omega) | skip
      rw [pg_if_t y_]
      rcases hbg with ⟨y_, y__⟩ | ⟨y_, y__⟩ <;> first | (exfalso; omega) | skip
      rw [pg_if_f y_]
    · refine pg_re 2 (L := []) (r := some (.inl 5)) (h0 := rm g s n) rfl trivial ?_
      refine ⟨?_, rfl⟩
      unfold mt_kd
      congr 2
      first | rw [if_pos (by decide)] | rw [if_neg (by decide), if_pos (by decide)] | rw [if_neg (by decide), if_neg (by decide), if_pos (by decide)] | rw [if_neg (by decide), if_neg (by decide), if_neg (by decide), if_pos (by decide)] | rw [if_neg (by decide), if_neg (by decide), if_neg (by decide), if_neg (by decide)]
      rcases hbm with ⟨y_, y__⟩ | ⟨y_, y__⟩ <;> first | (exfalso; omega) | skip
      rw [pg_if_t y_]
      rcases hbg with ⟨y_, y__⟩ | ⟨y_, y__⟩ <;> first | (exfalso; omega) | skip
      rw [pg_if_t y_]
set_option maxRecDepth 20000 in
set_option maxHeartbeats 4000000 in
theorem re_kd_6 {g : pg_H} {s n : Int} (hB : rm_B g s n) (hS : ri_S g s n) (hP : ri_P g s n) {e : Int} (hbm : (mt_hm (g 1) s n (6 * n * (6 * n)).toNat ∧ e = 1) ∨ (¬ mt_hm (g 1) s n (6 * n * (6 * n)).toNat ∧ e = 0)) : pg_Good false pm_T_kind (fun r h' => r = some (.inl (mt_kd (g 1) s n (6 : Int))) ∧ h' = rm g s n) (13, [(0, .inr (.inr 0)), (1, .inl e)], [.inl 6], rm g s n) := by
  obtain ⟨hs, hn, hT⟩ := id hB
  obtain ⟨hn1, hn2⟩ := id hn
  have hr := mt_rd_or hs
  have h66 := mt_66 hn1 hn2
  have hN := mt_2rn hs hn
  refine pg_br 2 (L := [pg_inR 6]) (P := pg_inR e) (c := e = 0) (st1 := (57, [(0, .inr (.inr 0)), (1, .inl e)], [], rm g s n)) (st2 := (52, [(0, .inr (.inr 0)), (1, .inl e)], [], rm g s n)) rfl ⟨by decide, by decide⟩ ⟨by omega, by omega⟩ (fun c_49_1 => ?_) (fun c_49_1 => ?_)
  · refine pg_re 1 (L := []) (r := some (.inl 16)) (h0 := rm g s n) rfl trivial ?_
    refine ⟨?_, rfl⟩
    unfold mt_kd
    congr 2
    first | rw [if_pos (by decide)] | rw [if_neg (by decide), if_pos (by decide)] | rw [if_neg (by decide), if_neg (by decide), if_pos (by decide)] | rw [if_neg (by decide), if_neg (by decide), if_neg (by decide), if_pos (by decide)] | rw [if_neg (by decide), if_neg (by decide), if_neg (by decide), if_neg (by decide)]
    rcases hbm with ⟨y_, y__⟩ | ⟨y_, y__⟩ <;> first | (exfalso; omega) | skip
    rw [pg_if_f y_]
  · refine pg_re 2 (L := []) (r := some (.inl 17)) (h0 := rm g s n) rfl trivial ?_
    refine ⟨?_, rfl⟩
    unfold mt_kd
    congr 2
    first | rw [if_pos (by decide)] | rw [if_neg (by decide), if_pos (by decide)] | rw [if_neg (by decide), if_neg (by decide), if_pos (by decide)] | rw [if_neg (by decide), if_neg (by decide), if_neg (by decide), if_pos (by decide)] | rw [if_neg (by decide), if_neg (by decide), if_neg (by decide), if_neg (by decide)]
    rcases hbm with ⟨y_, y__⟩ | ⟨y_, y__⟩ <;> first | (exfalso; omega) | skip
    rw [pg_if_t y_]
set_option maxRecDepth 20000 in
set_option maxHeartbeats 8000000 in
theorem re_kind {g : pg_H} {s n : Int} (hB : rm_B g s n) (hC : ri_C g) (hK : ri_K g s n) (hJ : ri_J g s n) : pg_Sem false pm_T_kind [.inr (.inr 0)] (rm g s n) (fun r h' => r = some (.inl (mt_kd (g 1) s n (mt_mx (g 1) s n (6 * n * (6 * n)).toNat))) ∧ ∃ g' : pg_H, h' = rm g' s n ∧ rf [3, 4, 5, 6, 7, 8] [6, 7, 8, 13, 15, 16] g g' ∧ ri_K g' s n ∧ ri_J g' s n) := by
  obtain ⟨hs, hn, hT⟩ := id hB
  obtain ⟨hn1, hn2⟩ := id hn
  have hr := mt_rd_or hs
  have h66 := mt_66 hn1 hn2
  refine pg_Sem_of pm_T_kind_f rfl ?_
  refine pg_ca 1 (L := []) (Mc := pm_T_findPlaces) (as := [.inr (.inr 0)]) (h0 := rm g s n) (pc := 4) (lv := [(0, .inr (.inr 0))]) (rest := []) rfl trivial (re_findPlaces (g := g) hB hC hK hJ) ?_
  intro r_1 h_1 e_1; obtain ⟨er_, g32, eh_, ef32, e832, e732, hS32, hP32⟩ := e_1; rw [er_, eh_]; have hB32 := rm_B_fr hB ef32 (by decide); have hC32 := ri_C_fr hC ef32 (by decide)
  have e1_32 : g32 1 = g 1 := ef32.1 1 (by decide) (by decide)
  refine pg_ca 1 (L := []) (Mc := pm_T_hasMirrors) (as := [.inr (.inr 0)]) (h0 := rm g32 s n) (pc := 8) (lv := [(0, .inr (.inr 0))]) (rest := []) rfl trivial (re_hasMirrors (g := g32) hB32 hS32 hP32) ?_
  intro r_1 h_1 e_1; rw [e_1.1, e_1.2]; have hbm := pg_b_or (mt_hm (g32 1) s n (6 * n * (6 * n)).toNat)
  refine pg_ca 2 (L := []) (Mc := pm_T_mostTurns) (as := [.inr (.inr 0)]) (h0 := rm g32 s n) (pc := 13) (lv := [(0, .inr (.inr 0)), (1, .inl (pg_b (mt_hm (g32 1) s n (6 * n * (6 * n)).toNat)))]) (rest := []) rfl trivial (re_mostTurns (g := g32) hB32 hS32 hP32) ?_
  intro r_1 h_1 e_1; rw [e_1.1, e_1.2]
  have hxb := mt_mx_le hs hn (g32 1) (6 * n * (6 * n)).toNat
  have hxc : (mt_mx (g32 1) s n (6 * n * (6 * n)).toNat) = 0 ∨ (mt_mx (g32 1) s n (6 * n * (6 * n)).toNat) = 1 ∨ (mt_mx (g32 1) s n (6 * n * (6 * n)).toNat) = 2 ∨ (mt_mx (g32 1) s n (6 * n * (6 * n)).toNat) = 3 ∨ (mt_mx (g32 1) s n (6 * n * (6 * n)).toNat) = 4 ∨ (mt_mx (g32 1) s n (6 * n * (6 * n)).toNat) = 5 ∨ (mt_mx (g32 1) s n (6 * n * (6 * n)).toNat) = 6 := by omega
  have hfin : ∀ x : Int, (mt_mx (g32 1) s n (6 * n * (6 * n)).toNat) = x → ∀ (r_ : Option pg_V) (h_ : pg_H), (r_ = some (.inl (mt_kd (g32 1) s n x)) ∧ h_ = rm g32 s n) → r_ = some (.inl (mt_kd (g 1) s n (mt_mx (g 1) s n (6 * n * (6 * n)).toNat))) ∧ ∃ g' : pg_H, h_ = rm g' s n ∧ rf [3, 4, 5, 6, 7, 8] [6, 7, 8, 13, 15, 16] g g' ∧ ri_K g' s n ∧ ri_J g' s n := by
    rintro x hx r_ h_ ⟨q1, q2⟩
    rw [e1_32] at q1 hx
    exact ⟨by rw [q1, hx], _, q2, ef32, Or.inr ⟨e732, hS32⟩, Or.inr ⟨e832, e732, hS32, hP32⟩⟩
  rcases hxc with hx | hx | hx | hx | hx | hx | hx
  · rw [hx]; exact po_st_mono (re_kd_0 hB32 hS32 hP32 hbm) (hfin _ hx)
  · rw [hx]; exact po_st_mono (re_kd_1 hB32 hS32 hP32 hbm) (hfin _ hx)
  · rw [hx]; exact po_st_mono (re_kd_2 hB32 hS32 hP32 hbm) (hfin _ hx)
  · rw [hx]; exact po_st_mono (re_kd_3 hB32 hS32 hP32 hbm) (hfin _ hx)
  · rw [hx]; exact po_st_mono (re_kd_4 hB32 hS32 hP32 hbm) (hfin _ hx)
  · rw [hx]; exact po_st_mono (re_kd_5 hB32 hS32 hP32 hbm) (hfin _ hx)
  · rw [hx]; exact po_st_mono (re_kd_6 hB32 hS32 hP32 hbm) (hfin _ hx)
set_option maxRecDepth 20000 in
set_option maxHeartbeats 4000000 in
theorem re_is_x00 {g : pg_H} {s n : Int} (hn : 1 ≤ n ∧ n ≤ 12) (hC : ri_C g) {y w u : Int} (hy : 0 ≤ y ∧ y < n) (hw : 1 ≤ w ∧ w ≤ n) (hu : 0 ≤ u ∧ u < n) {j : Int} (hj : 0 ≤ j ∧ j < w) (hK : ∀ e2 : Int, (e2 = 1 ∧ mt_su (g 1) n y w 0 0 u (j + 1) 0) ∨ (e2 = 0 ∧ ¬ mt_su (g 1) n y w 0 0 u (j + 1) 0) → pg_Good false pm_T_isStrip (fun r h' => r = some (.inl (pg_b (mt_st (g 1) n y w 0 0 u))) ∧ h' = rm g s n) (6, [(0, .inr (.inr 0)), (1, .inl y), (2, .inl w), (3, .inl 0), (4, .inl 0), (5, .inl u), (6, .inl e2), (7, .inl (j + 1))], [], rm g s n)) : ∀ (d : Nat) (e x : Int) (hd : x + (d : Int) = n) (hx : 0 ≤ x) (hI : (e = 1 ∧ mt_su (g 1) n y w 0 0 u j x) ∨ (e = 0 ∧ ¬ mt_su (g 1) n y w 0 0 u j x)), pg_Good false pm_T_isStrip (fun r h' => r = some (.inl (pg_b (mt_st (g 1) n y w 0 0 u))) ∧ h' = rm g s n) (15, [(0, .inr (.inr 0)), (1, .inl y), (2, .inl w), (3, .inl 0), (4, .inl 0), (5, .inl u), (6, .inl e), (7, .inl j), (8, .inl x)], [], rm g s n) := by
  intro d
  induction d with
  | zero =>
    intro e x hd hx hI
    obtain ⟨hn1, hn2⟩ := id hn
    refine pg_br 3 (L := []) (P := pg_inR x ∧ pg_inR n) (c := n ≤ x) (st1 := (113, [(0, .inr (.inr 0)), (1, .inl y), (2, .inl w), (3, .inl 0), (4, .inl 0), (5, .inl u), (6, .inl e), (7, .inl j), (8, .inl x)], [], rm g s n)) (st2 := (24, [(0, .inr (.inr 0)), (1, .inl y), (2, .inl w), (3, .inl 0), (4, .inl 0), (5, .inl u), (6, .inl e), (7, .inl j), (8, .inl x)], [], rm g s n)) rfl trivial ⟨⟨by omega, by omega⟩, ⟨by omega, by omega⟩⟩ (fun c_21_1 => ?_) (fun c_21_1 => ?_)
    · refine pg_go 2 (L := []) (st' := (6, [(0, .inr (.inr 0)), (1, .inl y), (2, .inl w), (3, .inl 0), (4, .inl 0), (5, .inl u), (6, .inl e), (7, .inl (j + 1)), (8, .inl x)], [], rm g s n)) rfl trivial ?_
      refine pg_pick [0, 1, 2, 3, 4, 5, 6, 7] rfl ?_
      refine hK e ?_
      rw [mt_su_n, show n = x by omega]
      rw [show n = x by omega] at hI
      exact hI
    · exact (by exfalso; omega)
  | succ d ih =>
    intro e x hd hx hI
    obtain ⟨hn1, hn2⟩ := id hn
    have q1 := mt_pt_bd hn1 hn2 (mt_mod hn1 x) (mt_mod hn1 (y + j))
    have q2 := mt_pt_bd hn1 hn2 (mt_mod hn1 (u + x)) (mt_mod hn1 (y + j))
    have q3 := hC (mt_pt n (x % n) ((y + j) % n)).toNat (by omega)
    have q4 := hC (mt_pt n ((u + x) % n) ((y + j) % n)).toNat (by omega)
    have eu : u + x = u + x := rfl
    refine pg_br 3 (L := []) (P := pg_inR x ∧ pg_inR n) (c := n ≤ x) (st1 := (113, [(0, .inr (.inr 0)), (1, .inl y), (2, .inl w), (3, .inl 0), (4, .inl 0), (5, .inl u), (6, .inl e), (7, .inl j), (8, .inl x)], [], rm g s n)) (st2 := (24, [(0, .inr (.inr 0)), (1, .inl y), (2, .inl w), (3, .inl 0), (4, .inl 0), (5, .inl u), (6, .inl e), (7, .inl j), (8, .inl x)], [], rm g s n)) rfl trivial ⟨⟨by omega, by omega⟩, ⟨by omega, by omega⟩⟩ (fun c_21_2 => ?_) (fun c_21_2 => ?_)
    · exact (by exfalso; omega)
    · refine pg_br 1 (L := []) (P := pg_inR 0) (c := 0 = 0) (st1 := (37, [(0, .inr (.inr 0)), (1, .inl y), (2, .inl w), (3, .inl 0), (4, .inl 0), (5, .inl u), (6, .inl e), (7, .inl j), (8, .inl x)], [], rm g s n)) (st2 := (28, [(0, .inr (.inr 0)), (1, .inl y), (2, .inl w), (3, .inl 0), (4, .inl 0), (5, .inl u), (6, .inl e), (7, .inl j), (8, .inl x)], [], rm g s n)) rfl trivial ⟨by decide, by decide⟩ (fun c_25_3 => ?_) (fun c_25_3 => ?_)
      · refine pg_br 3 (L := []) (P := pg_inR e) (c := e = 0) (st1 := (104, [(0, .inr (.inr 0)), (1, .inl y), (2, .inl w), (3, .inl 0), (4, .inl 0), (5, .inl u), (6, .inl e), (7, .inl j), (8, .inl x), (9, .inl j)], [], rm g s n)) (st2 := (46, [(0, .inr (.inr 0)), (1, .inl y), (2, .inl w), (3, .inl 0), (4, .inl 0), (5, .inl u), (6, .inl e), (7, .inl j), (8, .inl x), (9, .inl j)], [], rm g s n)) rfl trivial ⟨by omega, by omega⟩ (fun c_43_4 => ?_) (fun c_43_4 => ?_)
        · refine pg_go 4 (L := []) (st' := (15, [(0, .inr (.inr 0)), (1, .inl y), (2, .inl w), (3, .inl 0), (4, .inl 0), (5, .inl u), (6, .inl 0), (7, .inl j), (8, .inl (x + 1)), (9, .inl j)], [], rm g s n)) rfl trivial ?_
          refine pg_pick [0, 1, 2, 3, 4, 5, 6, 7, 8] rfl ?_
          refine ih _ _ (by omega) (by omega) ?_
          rw [mt_su_s (by omega) (by omega)]
          refine Or.inr ⟨rfl, ?_⟩
          rcases hI with h1 | h1
          · rintro ⟨-, h2⟩
            rw [if_pos (show (0 : Int) = 0 from rfl), if_pos (show (0 : Int) = 0 from rfl)] at h2
            omega
          · exact fun h2 => h1.2 h2.1
        · refine pg_br 6 (L := [pg_inR u]) (P := pg_inR 0) (c := 0 = 0) (st1 := (65, [(0, .inr (.inr 0)), (1, .inl y), (2, .inl w), (3, .inl 0), (4, .inl 0), (5, .inl u), (6, .inl e), (7, .inl j), (8, .inl x), (9, .inl j)], [.inr (.inl u), .inr (.inr 0), .inr (.inr 1)], rm g s n)) (st2 := (59, [(0, .inr (.inr 0)), (1, .inl y), (2, .inl w), (3, .inl 0), (4, .inl 0), (5, .inl u), (6, .inl e), (7, .inl j), (8, .inl x), (9, .inl j)], [.inr (.inl u), .inr (.inr 0), .inr (.inr 1)], rm g s n)) rfl ⟨by omega, by omega⟩ ⟨by decide, by decide⟩ (fun c_56_5 => ?_) (fun c_56_5 => ?_)
          · refine pg_ca 8 (L := [pg_inR x, pg_inR y, pg_inR j]) (Mc := pm_T_at) (as := [.inr (.inr 0), .inr (.inl (u + x)), .inr (.inl (y + j))]) (h0 := rm g s n) (pc := 78) (lv := [(0, .inr (.inr 0)), (1, .inl y), (2, .inl w), (3, .inl 0), (4, .inl 0), (5, .inl u), (6, .inl e), (7, .inl j), (8, .inl x), (9, .inl j)]) (rest := [.inr (.inr 1)]) rfl ⟨⟨by omega, by omega⟩, ⟨by omega, by omega⟩, ⟨by omega, by omega⟩⟩ (re_at (g := g) (s := s) hn (u + x) (y + j) ⟨by omega, by omega⟩ ⟨by omega, by omega⟩) ?_
            intro r_1 h_1 e_1; rw [e_1.1, e_1.2]
            refine pg_ca 11 (L := [0 ≤ (mt_pt n ((u + x) % n) ((y + j) % n)) ∧ (mt_pt n ((u + x) % n) ((y + j) % n)) < (144 : Int), pg_inR x, pg_inR y, pg_inR j]) (Mc := pm_T_at) (as := [.inr (.inr 0), .inr (.inl x), .inr (.inl (y + j))]) (h0 := rm g s n) (pc := 96) (lv := [(0, .inr (.inr 0)), (1, .inl y), (2, .inl w), (3, .inl 0), (4, .inl 0), (5, .inl u), (6, .inl e), (7, .inl j), (8, .inl x), (9, .inl j)]) (rest := [.inr (.inr 1), .inl (g 1 ((mt_pt n ((u + x) % n) ((y + j) % n)).toNat))]) rfl ⟨⟨by omega, by omega⟩, ⟨by omega, by omega⟩, ⟨by omega, by omega⟩, ⟨by omega, by omega⟩⟩ (re_at (g := g) (s := s) hn x (y + j) ⟨by omega, by omega⟩ ⟨by omega, by omega⟩) ?_
            intro r_1 h_1 e_1; rw [e_1.1, e_1.2]
            refine pg_br 1 (L := [0 ≤ (mt_pt n (x % n) ((y + j) % n)) ∧ (mt_pt n (x % n) ((y + j) % n)) < (144 : Int)]) (P := pg_inR (g 1 ((mt_pt n ((u + x) % n) ((y + j) % n)).toNat)) ∧ pg_inR (g 1 ((mt_pt n (x % n) ((y + j) % n)).toNat))) (c := ¬ (g 1 ((mt_pt n ((u + x) % n) ((y + j) % n)).toNat)) = (g 1 ((mt_pt n (x % n) ((y + j) % n)).toNat))) (st1 := (104, [(0, .inr (.inr 0)), (1, .inl y), (2, .inl w), (3, .inl 0), (4, .inl 0), (5, .inl u), (6, .inl e), (7, .inl j), (8, .inl x), (9, .inl j)], [], rm g s n)) (st2 := (100, [(0, .inr (.inr 0)), (1, .inl y), (2, .inl w), (3, .inl 0), (4, .inl 0), (5, .inl u), (6, .inl e), (7, .inl j), (8, .inl x), (9, .inl j)], [], rm g s n)) rfl ⟨by omega, by omega⟩ ⟨⟨by omega, by omega⟩, ⟨by omega, by omega⟩⟩ (fun c_97_6 => ?_) (fun c_97_6 => ?_)
            · refine pg_go 4 (L := []) (st' := (15, [(0, .inr (.inr 0)), (1, .inl y), (2, .inl w), (3, .inl 0), (4, .inl 0), (5, .inl u), (6, .inl 0), (7, .inl j), (8, .inl (x + 1)), (9, .inl j)], [], rm g s n)) rfl trivial ?_
              refine pg_pick [0, 1, 2, 3, 4, 5, 6, 7, 8] rfl ?_
              refine ih _ _ (by omega) (by omega) ?_
              rw [mt_su_s (by omega) (by omega)]
              refine Or.inr ⟨rfl, ?_⟩
              rcases hI with h1 | h1
              · rintro ⟨-, h2⟩
                rw [if_pos (show (0 : Int) = 0 from rfl), if_pos (show (0 : Int) = 0 from rfl)] at h2
                omega
              · exact fun h2 => h1.2 h2.1
            · refine pg_go 5 (L := []) (st' := (15, [(0, .inr (.inr 0)), (1, .inl y), (2, .inl w), (3, .inl 0), (4, .inl 0), (5, .inl u), (6, .inl 1), (7, .inl j), (8, .inl (x + 1)), (9, .inl j)], [], rm g s n)) rfl trivial ?_
              refine pg_pick [0, 1, 2, 3, 4, 5, 6, 7, 8] rfl ?_
              refine ih _ _ (by omega) (by omega) ?_
              rw [mt_su_s (by omega) (by omega)]
              rcases hI with h1 | h1
              · refine Or.inl ⟨rfl, h1.2, ?_⟩
                rw [if_pos (show (0 : Int) = 0 from rfl), if_pos (show (0 : Int) = 0 from rfl)]
                omega
              · exfalso; omega
          · exact absurd c_56_5 (by decide)
      · exact absurd c_25_3 (by decide)
set_option maxRecDepth 20000 in
set_option maxHeartbeats 4000000 in
theorem re_is_j00 {g : pg_H} {s n : Int} (hn : 1 ≤ n ∧ n ≤ 12) (hC : ri_C g) {y w u : Int} (hy : 0 ≤ y ∧ y < n) (hw : 1 ≤ w ∧ w ≤ n) (hu : 0 ≤ u ∧ u < n) : ∀ (d : Nat) (e j : Int) (hd : j + (d : Int) = w) (hj : 0 ≤ j) (hI : (e = 1 ∧ mt_su (g 1) n y w 0 0 u j 0) ∨ (e = 0 ∧ ¬ mt_su (g 1) n y w 0 0 u j 0)), pg_Good false pm_T_isStrip (fun r h' => r = some (.inl (pg_b (mt_st (g 1) n y w 0 0 u))) ∧ h' = rm g s n) (6, [(0, .inr (.inr 0)), (1, .inl y), (2, .inl w), (3, .inl 0), (4, .inl 0), (5, .inl u), (6, .inl e), (7, .inl j)], [], rm g s n) := by
  intro d
  induction d with
  | zero =>
    intro e j hd hj hI
    obtain ⟨hn1, hn2⟩ := id hn
    refine pg_br 2 (L := []) (P := pg_inR j ∧ pg_inR w) (c := w ≤ j) (st1 := (119, [(0, .inr (.inr 0)), (1, .inl y), (2, .inl w), (3, .inl 0), (4, .inl 0), (5, .inl u), (6, .inl e), (7, .inl j)], [], rm g s n)) (st2 := (12, [(0, .inr (.inr 0)), (1, .inl y), (2, .inl w), (3, .inl 0), (4, .inl 0), (5, .inl u), (6, .inl e), (7, .inl j)], [], rm g s n)) rfl trivial ⟨⟨by omega, by omega⟩, ⟨by omega, by omega⟩⟩ (fun c_9_1 => ?_) (fun c_9_1 => ?_)
    · refine pg_re 1 (L := [e = 0 ∨ e = 1]) (r := some (.inl e)) (h0 := rm g s n) rfl (by (show _ ∨ _); omega) ?_
      refine ⟨?_, rfl⟩
      rcases hI with h1 | h1
      · rw [h1.1, pg_b_t (P := mt_st (g 1) n y w 0 0 u) (fun a b k1 k2 k3 k4 => h1.2 a b k1 k2 k3 k4 (by omega))]
      · rw [h1.1, pg_b_f (P := mt_st (g 1) n y w 0 0 u) (fun h2 => h1.2 (fun a b k1 k2 k3 k4 _ => h2 a b k1 k2 k3 k4))]
    · exact (by exfalso; omega)
  | succ d ih =>
    intro e j hd hj hI
    obtain ⟨hn1, hn2⟩ := id hn
    refine pg_br 2 (L := []) (P := pg_inR j ∧ pg_inR w) (c := w ≤ j) (st1 := (119, [(0, .inr (.inr 0)), (1, .inl y), (2, .inl w), (3, .inl 0), (4, .inl 0), (5, .inl u), (6, .inl e), (7, .inl j)], [], rm g s n)) (st2 := (12, [(0, .inr (.inr 0)), (1, .inl y), (2, .inl w), (3, .inl 0), (4, .inl 0), (5, .inl u), (6, .inl e), (7, .inl j)], [], rm g s n)) rfl trivial ⟨⟨by omega, by omega⟩, ⟨by omega, by omega⟩⟩ (fun c_9_2 => ?_) (fun c_9_2 => ?_)
    · exact (by exfalso; omega)
    · refine pg_go 2 (L := []) (st' := (15, [(0, .inr (.inr 0)), (1, .inl y), (2, .inl w), (3, .inl 0), (4, .inl 0), (5, .inl u), (6, .inl e), (7, .inl j), (8, .inl 0)], [], rm g s n)) rfl trivial ?_
      exact re_is_x00 hn hC hy hw hu (j := j) (by omega) (fun e2 h2 => ih e2 _ (by omega) (by omega) h2) n.toNat e 0 (by omega) (by omega) hI
theorem re_is_00 {g : pg_H} {s n : Int} (hn : 1 ≤ n ∧ n ≤ 12) (hC : ri_C g) (y w u : Int) (hy : 0 ≤ y ∧ y < n) (hw : 1 ≤ w ∧ w ≤ n) (hu : 0 ≤ u ∧ u < n) : pg_Sem false pm_T_isStrip [.inr (.inr 0), .inl y, .inl w, .inl 0, .inl 0, .inl u] (rm g s n) (fun r h' => r = some (.inl (pg_b (mt_st (g 1) n y w 0 0 u))) ∧ h' = rm g s n) := by
  refine pg_Sem_of pm_T_isStrip_f rfl ?_
  refine pg_go 4 (L := []) (st' := (6, [(0, .inr (.inr 0)), (1, .inl y), (2, .inl w), (3, .inl 0), (4, .inl 0), (5, .inl u), (6, .inl 1), (7, .inl 0)], [], rm g s n)) rfl trivial ?_
  refine re_is_j00 hn hC hy hw hu w.toNat 1 0 (by omega) (by omega) (Or.inl ⟨rfl, ?_⟩)
  intro a b k1 k2 k3 k4 k5; omega
set_option maxRecDepth 20000 in
set_option maxHeartbeats 4000000 in
theorem re_is_x01 {g : pg_H} {s n : Int} (hn : 1 ≤ n ∧ n ≤ 12) (hC : ri_C g) {y w u : Int} (hy : 0 ≤ y ∧ y < n) (hw : 1 ≤ w ∧ w ≤ n) (hu : 0 ≤ u ∧ u < n) {j : Int} (hj : 0 ≤ j ∧ j < w) (hK : ∀ e2 : Int, (e2 = 1 ∧ mt_su (g 1) n y w 0 1 u (j + 1) 0) ∨ (e2 = 0 ∧ ¬ mt_su (g 1) n y w 0 1 u (j + 1) 0) → pg_Good false pm_T_isStrip (fun r h' => r = some (.inl (pg_b (mt_st (g 1) n y w 0 1 u))) ∧ h' = rm g s n) (6, [(0, .inr (.inr 0)), (1, .inl y), (2, .inl w), (3, .inl 0), (4, .inl 1), (5, .inl u), (6, .inl e2), (7, .inl (j + 1))], [], rm g s n)) : ∀ (d : Nat) (e x : Int) (hd : x + (d : Int) = n) (hx : 0 ≤ x) (hI : (e = 1 ∧ mt_su (g 1) n y w 0 1 u j x) ∨ (e = 0 ∧ ¬ mt_su (g 1) n y w 0 1 u j x)), pg_Good false pm_T_isStrip (fun r h' => r = some (.inl (pg_b (mt_st (g 1) n y w 0 1 u))) ∧ h' = rm g s n) (15, [(0, .inr (.inr 0)), (1, .inl y), (2, .inl w), (3, .inl 0), (4, .inl 1), (5, .inl u), (6, .inl e), (7, .inl j), (8, .inl x)], [], rm g s n) := by
  intro d
  induction d with
  | zero =>
    intro e x hd hx hI
    obtain ⟨hn1, hn2⟩ := id hn
    refine pg_br 3 (L := []) (P := pg_inR x ∧ pg_inR n) (c := n ≤ x) (st1 := (113, [(0, .inr (.inr 0)), (1, .inl y), (2, .inl w), (3, .inl 0), (4, .inl 1), (5, .inl u), (6, .inl e), (7, .inl j), (8, .inl x)], [], rm g s n)) (st2 := (24, [(0, .inr (.inr 0)), (1, .inl y), (2, .inl w), (3, .inl 0), (4, .inl 1), (5, .inl u), (6, .inl e), (7, .inl j), (8, .inl x)], [], rm g s n)) rfl trivial ⟨⟨by omega, by omega⟩, ⟨by omega, by omega⟩⟩ (fun c_21_1 => ?_) (fun c_21_1 => ?_)
    · refine pg_go 2 (L := []) (st' := (6, [(0, .inr (.inr 0)), (1, .inl y), (2, .inl w), (3, .inl 0), (4, .inl 1), (5, .inl u), (6, .inl e), (7, .inl (j + 1)), (8, .inl x)], [], rm g s n)) rfl trivial ?_
      refine pg_pick [0, 1, 2, 3, 4, 5, 6, 7] rfl ?_
      refine hK e ?_
      rw [mt_su_n, show n = x by omega]
      rw [show n = x by omega] at hI
      exact hI
    · exact (by exfalso; omega)
  | succ d ih =>
    intro e x hd hx hI
    obtain ⟨hn1, hn2⟩ := id hn
    have q1 := mt_pt_bd hn1 hn2 (mt_mod hn1 x) (mt_mod hn1 (y + j))
    have q2 := mt_pt_bd hn1 hn2 (mt_mod hn1 (u + -x)) (mt_mod hn1 (y + j))
    have q3 := hC (mt_pt n (x % n) ((y + j) % n)).toNat (by omega)
    have q4 := hC (mt_pt n ((u + -x) % n) ((y + j) % n)).toNat (by omega)
    have eu : u + -x = u - x := by omega
    refine pg_br 3 (L := []) (P := pg_inR x ∧ pg_inR n) (c := n ≤ x) (st1 := (113, [(0, .inr (.inr 0)), (1, .inl y), (2, .inl w), (3, .inl 0), (4, .inl 1), (5, .inl u), (6, .inl e), (7, .inl j), (8, .inl x)], [], rm g s n)) (st2 := (24, [(0, .inr (.inr 0)), (1, .inl y), (2, .inl w), (3, .inl 0), (4, .inl 1), (5, .inl u), (6, .inl e), (7, .inl j), (8, .inl x)], [], rm g s n)) rfl trivial ⟨⟨by omega, by omega⟩, ⟨by omega, by omega⟩⟩ (fun c_21_2 => ?_) (fun c_21_2 => ?_)
    · exact (by exfalso; omega)
    · refine pg_br 1 (L := []) (P := pg_inR 0) (c := 0 = 0) (st1 := (37, [(0, .inr (.inr 0)), (1, .inl y), (2, .inl w), (3, .inl 0), (4, .inl 1), (5, .inl u), (6, .inl e), (7, .inl j), (8, .inl x)], [], rm g s n)) (st2 := (28, [(0, .inr (.inr 0)), (1, .inl y), (2, .inl w), (3, .inl 0), (4, .inl 1), (5, .inl u), (6, .inl e), (7, .inl j), (8, .inl x)], [], rm g s n)) rfl trivial ⟨by decide, by decide⟩ (fun c_25_3 => ?_) (fun c_25_3 => ?_)
      · refine pg_br 3 (L := []) (P := pg_inR e) (c := e = 0) (st1 := (104, [(0, .inr (.inr 0)), (1, .inl y), (2, .inl w), (3, .inl 0), (4, .inl 1), (5, .inl u), (6, .inl e), (7, .inl j), (8, .inl x), (9, .inl j)], [], rm g s n)) (st2 := (46, [(0, .inr (.inr 0)), (1, .inl y), (2, .inl w), (3, .inl 0), (4, .inl 1), (5, .inl u), (6, .inl e), (7, .inl j), (8, .inl x), (9, .inl j)], [], rm g s n)) rfl trivial ⟨by omega, by omega⟩ (fun c_43_4 => ?_) (fun c_43_4 => ?_)
        · refine pg_go 4 (L := []) (st' := (15, [(0, .inr (.inr 0)), (1, .inl y), (2, .inl w), (3, .inl 0), (4, .inl 1), (5, .inl u), (6, .inl 0), (7, .inl j), (8, .inl (x + 1)), (9, .inl j)], [], rm g s n)) rfl trivial ?_
          refine pg_pick [0, 1, 2, 3, 4, 5, 6, 7, 8] rfl ?_
          refine ih _ _ (by omega) (by omega) ?_
          rw [mt_su_s (by omega) (by omega)]
          refine Or.inr ⟨rfl, ?_⟩
          rcases hI with h1 | h1
          · rintro ⟨-, h2⟩
            rw [if_neg (show ¬ (1 : Int) = 0 by decide), if_pos (show (0 : Int) = 0 from rfl)] at h2; rw [← eu] at h2
            omega
          · exact fun h2 => h1.2 h2.1
        · refine pg_br 6 (L := [pg_inR u]) (P := pg_inR 1) (c := 1 = 0) (st1 := (65, [(0, .inr (.inr 0)), (1, .inl y), (2, .inl w), (3, .inl 0), (4, .inl 1), (5, .inl u), (6, .inl e), (7, .inl j), (8, .inl x), (9, .inl j)], [.inr (.inl u), .inr (.inr 0), .inr (.inr 1)], rm g s n)) (st2 := (59, [(0, .inr (.inr 0)), (1, .inl y), (2, .inl w), (3, .inl 0), (4, .inl 1), (5, .inl u), (6, .inl e), (7, .inl j), (8, .inl x), (9, .inl j)], [.inr (.inl u), .inr (.inr 0), .inr (.inr 1)], rm g s n)) rfl ⟨by omega, by omega⟩ ⟨by decide, by decide⟩ (fun c_56_5 => ?_) (fun c_56_5 => ?_)
          · exact absurd c_56_5 (by decide)
          · refine pg_ca 10 (L := [pg_inR (-x), pg_inR y, pg_inR j]) (Mc := pm_T_at) (as := [.inr (.inr 0), .inr (.inl (u + (-x))), .inr (.inl (y + j))]) (h0 := rm g s n) (pc := 78) (lv := [(0, .inr (.inr 0)), (1, .inl y), (2, .inl w), (3, .inl 0), (4, .inl 1), (5, .inl u), (6, .inl e), (7, .inl j), (8, .inl x), (9, .inl j)]) (rest := [.inr (.inr 1)]) rfl ⟨⟨by omega, by omega⟩, ⟨by omega, by omega⟩, ⟨by omega, by omega⟩⟩ (re_at (g := g) (s := s) hn (u + (-x)) (y + j) ⟨by omega, by omega⟩ ⟨by omega, by omega⟩) ?_
            intro r_1 h_1 e_1; rw [e_1.1, e_1.2]
            refine pg_ca 11 (L := [0 ≤ (mt_pt n ((u + (-x)) % n) ((y + j) % n)) ∧ (mt_pt n ((u + (-x)) % n) ((y + j) % n)) < (144 : Int), pg_inR x, pg_inR y, pg_inR j]) (Mc := pm_T_at) (as := [.inr (.inr 0), .inr (.inl x), .inr (.inl (y + j))]) (h0 := rm g s n) (pc := 96) (lv := [(0, .inr (.inr 0)), (1, .inl y), (2, .inl w), (3, .inl 0), (4, .inl 1), (5, .inl u), (6, .inl e), (7, .inl j), (8, .inl x), (9, .inl j)]) (rest := [.inr (.inr 1), .inl (g 1 ((mt_pt n ((u + (-x)) % n) ((y + j) % n)).toNat))]) rfl ⟨⟨by omega, by omega⟩, ⟨by omega, by omega⟩, ⟨by omega, by omega⟩, ⟨by omega, by omega⟩⟩ (re_at (g := g) (s := s) hn x (y + j) ⟨by omega, by omega⟩ ⟨by omega, by omega⟩) ?_
            intro r_1 h_1 e_1; rw [e_1.1, e_1.2]
            refine pg_br 1 (L := [0 ≤ (mt_pt n (x % n) ((y + j) % n)) ∧ (mt_pt n (x % n) ((y + j) % n)) < (144 : Int)]) (P := pg_inR (g 1 ((mt_pt n ((u + (-x)) % n) ((y + j) % n)).toNat)) ∧ pg_inR (g 1 ((mt_pt n (x % n) ((y + j) % n)).toNat))) (c := ¬ (g 1 ((mt_pt n ((u + (-x)) % n) ((y + j) % n)).toNat)) = (g 1 ((mt_pt n (x % n) ((y + j) % n)).toNat))) (st1 := (104, [(0, .inr (.inr 0)), (1, .inl y), (2, .inl w), (3, .inl 0), (4, .inl 1), (5, .inl u), (6, .inl e), (7, .inl j), (8, .inl x), (9, .inl j)], [], rm g s n)) (st2 := (100, [(0, .inr (.inr 0)), (1, .inl y), (2, .inl w), (3, .inl 0), (4, .inl 1), (5, .inl u), (6, .inl e), (7, .inl j), (8, .inl x), (9, .inl j)], [], rm g s n)) rfl ⟨by omega, by omega⟩ ⟨⟨by omega, by omega⟩, ⟨by omega, by omega⟩⟩ (fun c_97_6 => ?_) (fun c_97_6 => ?_)
            · refine pg_go 4 (L := []) (st' := (15, [(0, .inr (.inr 0)), (1, .inl y), (2, .inl w), (3, .inl 0), (4, .inl 1), (5, .inl u), (6, .inl 0), (7, .inl j), (8, .inl (x + 1)), (9, .inl j)], [], rm g s n)) rfl trivial ?_
              refine pg_pick [0, 1, 2, 3, 4, 5, 6, 7, 8] rfl ?_
              refine ih _ _ (by omega) (by omega) ?_
              rw [mt_su_s (by omega) (by omega)]
              refine Or.inr ⟨rfl, ?_⟩
              rcases hI with h1 | h1
              · rintro ⟨-, h2⟩
                rw [if_neg (show ¬ (1 : Int) = 0 by decide), if_pos (show (0 : Int) = 0 from rfl)] at h2; rw [← eu] at h2
                omega
              · exact fun h2 => h1.2 h2.1
            · refine pg_go 5 (L := []) (st' := (15, [(0, .inr (.inr 0)), (1, .inl y), (2, .inl w), (3, .inl 0), (4, .inl 1), (5, .inl u), (6, .inl 1), (7, .inl j), (8, .inl (x + 1)), (9, .inl j)], [], rm g s n)) rfl trivial ?_
              refine pg_pick [0, 1, 2, 3, 4, 5, 6, 7, 8] rfl ?_
              refine ih _ _ (by omega) (by omega) ?_
              rw [mt_su_s (by omega) (by omega)]
              rcases hI with h1 | h1
              · refine Or.inl ⟨rfl, h1.2, ?_⟩
                rw [if_neg (show ¬ (1 : Int) = 0 by decide), if_pos (show (0 : Int) = 0 from rfl)]; rw [← eu]
                omega
              · exfalso; omega
      · exact absurd c_25_3 (by decide)
set_option maxRecDepth 20000 in
set_option maxHeartbeats 4000000 in
theorem re_is_j01 {g : pg_H} {s n : Int} (hn : 1 ≤ n ∧ n ≤ 12) (hC : ri_C g) {y w u : Int} (hy : 0 ≤ y ∧ y < n) (hw : 1 ≤ w ∧ w ≤ n) (hu : 0 ≤ u ∧ u < n) : ∀ (d : Nat) (e j : Int) (hd : j + (d : Int) = w) (hj : 0 ≤ j) (hI : (e = 1 ∧ mt_su (g 1) n y w 0 1 u j 0) ∨ (e = 0 ∧ ¬ mt_su (g 1) n y w 0 1 u j 0)), pg_Good false pm_T_isStrip (fun r h' => r = some (.inl (pg_b (mt_st (g 1) n y w 0 1 u))) ∧ h' = rm g s n) (6, [(0, .inr (.inr 0)), (1, .inl y), (2, .inl w), (3, .inl 0), (4, .inl 1), (5, .inl u), (6, .inl e), (7, .inl j)], [], rm g s n) := by
  intro d
  induction d with
  | zero =>
    intro e j hd hj hI
    obtain ⟨hn1, hn2⟩ := id hn
    refine pg_br 2 (L := []) (P := pg_inR j ∧ pg_inR w) (c := w ≤ j) (st1 := (119, [(0, .inr (.inr 0)), (1, .inl y), (2, .inl w), (3, .inl 0), (4, .inl 1), (5, .inl u), (6, .inl e), (7, .inl j)], [], rm g s n)) (st2 := (12, [(0, .inr (.inr 0)), (1, .inl y), (2, .inl w), (3, .inl 0), (4, .inl 1), (5, .inl u), (6, .inl e), (7, .inl j)], [], rm g s n)) rfl trivial ⟨⟨by omega, by omega⟩, ⟨by omega, by omega⟩⟩ (fun c_9_1 => ?_) (fun c_9_1 => ?_)
    · refine pg_re 1 (L := [e = 0 ∨ e = 1]) (r := some (.inl e)) (h0 := rm g s n) rfl (by (show _ ∨ _); omega) ?_
      refine ⟨?_, rfl⟩
      rcases hI with h1 | h1
      · rw [h1.1, pg_b_t (P := mt_st (g 1) n y w 0 1 u) (fun a b k1 k2 k3 k4 => h1.2 a b k1 k2 k3 k4 (by omega))]
      · rw [h1.1, pg_b_f (P := mt_st (g 1) n y w 0 1 u) (fun h2 => h1.2 (fun a b k1 k2 k3 k4 _ => h2 a b k1 k2 k3 k4))]
    · exact (by exfalso; omega)
  | succ d ih =>
    intro e j hd hj hI
    obtain ⟨hn1, hn2⟩ := id hn
    refine pg_br 2 (L := []) (P := pg_inR j ∧ pg_inR w) (c := w ≤ j) (st1 := (119, [(0, .inr (.inr 0)), (1, .inl y), (2, .inl w), (3, .inl 0), (4, .inl 1), (5, .inl u), (6, .inl e), (7, .inl j)], [], rm g s n)) (st2 := (12, [(0, .inr (.inr 0)), (1, .inl y), (2, .inl w), (3, .inl 0), (4, .inl 1), (5, .inl u), (6, .inl e), (7, .inl j)], [], rm g s n)) rfl trivial ⟨⟨by omega, by omega⟩, ⟨by omega, by omega⟩⟩ (fun c_9_2 => ?_) (fun c_9_2 => ?_)
    · exact (by exfalso; omega)
    · refine pg_go 2 (L := []) (st' := (15, [(0, .inr (.inr 0)), (1, .inl y), (2, .inl w), (3, .inl 0), (4, .inl 1), (5, .inl u), (6, .inl e), (7, .inl j), (8, .inl 0)], [], rm g s n)) rfl trivial ?_
      exact re_is_x01 hn hC hy hw hu (j := j) (by omega) (fun e2 h2 => ih e2 _ (by omega) (by omega) h2) n.toNat e 0 (by omega) (by omega) hI
theorem re_is_01 {g : pg_H} {s n : Int} (hn : 1 ≤ n ∧ n ≤ 12) (hC : ri_C g) (y w u : Int) (hy : 0 ≤ y ∧ y < n) (hw : 1 ≤ w ∧ w ≤ n) (hu : 0 ≤ u ∧ u < n) : pg_Sem false pm_T_isStrip [.inr (.inr 0), .inl y, .inl w, .inl 0, .inl 1, .inl u] (rm g s n) (fun r h' => r = some (.inl (pg_b (mt_st (g 1) n y w 0 1 u))) ∧ h' = rm g s n) := by
  refine pg_Sem_of pm_T_isStrip_f rfl ?_
  refine pg_go 4 (L := []) (st' := (6, [(0, .inr (.inr 0)), (1, .inl y), (2, .inl w), (3, .inl 0), (4, .inl 1), (5, .inl u), (6, .inl 1), (7, .inl 0)], [], rm g s n)) rfl trivial ?_
  refine re_is_j01 hn hC hy hw hu w.toNat 1 0 (by omega) (by omega) (Or.inl ⟨rfl, ?_⟩)
  intro a b k1 k2 k3 k4 k5; omega
set_option maxRecDepth 20000 in
set_option maxHeartbeats 4000000 in
theorem re_is_x10 {g : pg_H} {s n : Int} (hn : 1 ≤ n ∧ n ≤ 12) (hC : ri_C g) {y w u : Int} (hy : 0 ≤ y ∧ y < n) (hw : 1 ≤ w ∧ w ≤ n) (hu : 0 ≤ u ∧ u < n) {j : Int} (hj : 0 ≤ j ∧ j < w) (hK : ∀ e2 : Int, (e2 = 1 ∧ mt_su (g 1) n y w 1 0 u (j + 1) 0) ∨ (e2 = 0 ∧ ¬ mt_su (g 1) n y w 1 0 u (j + 1) 0) → pg_Good false pm_T_isStrip (fun r h' => r = some (.inl (pg_b (mt_st (g 1) n y w 1 0 u))) ∧ h' = rm g s n) (6, [(0, .inr (.inr 0)), (1, .inl y), (2, .inl w), (3, .inl 1), (4, .inl 0), (5, .inl u), (6, .inl e2), (7, .inl (j + 1))], [], rm g s n)) : ∀ (d : Nat) (e x : Int) (hd : x + (d : Int) = n) (hx : 0 ≤ x) (hI : (e = 1 ∧ mt_su (g 1) n y w 1 0 u j x) ∨ (e = 0 ∧ ¬ mt_su (g 1) n y w 1 0 u j x)), pg_Good false pm_T_isStrip (fun r h' => r = some (.inl (pg_b (mt_st (g 1) n y w 1 0 u))) ∧ h' = rm g s n) (15, [(0, .inr (.inr 0)), (1, .inl y), (2, .inl w), (3, .inl 1), (4, .inl 0), (5, .inl u), (6, .inl e), (7, .inl j), (8, .inl x)], [], rm g s n) := by
  intro d
  induction d with
  | zero =>
    intro e x hd hx hI
    obtain ⟨hn1, hn2⟩ := id hn
    refine pg_br 3 (L := []) (P := pg_inR x ∧ pg_inR n) (c := n ≤ x) (st1 := (113, [(0, .inr (.inr 0)), (1, .inl y), (2, .inl w), (3, .inl 1), (4, .inl 0), (5, .inl u), (6, .inl e), (7, .inl j), (8, .inl x)], [], rm g s n)) (st2 := (24, [(0, .inr (.inr 0)), (1, .inl y), (2, .inl w), (3, .inl 1), (4, .inl 0), (5, .inl u), (6, .inl e), (7, .inl j), (8, .inl x)], [], rm g s n)) rfl trivial ⟨⟨by omega, by omega⟩, ⟨by omega, by omega⟩⟩ (fun c_21_1 => ?_) (fun c_21_1 => ?_)
    · refine pg_go 2 (L := []) (st' := (6, [(0, .inr (.inr 0)), (1, .inl y), (2, .inl w), (3, .inl 1), (4, .inl 0), (5, .inl u), (6, .inl e), (7, .inl (j + 1)), (8, .inl x)], [], rm g s n)) rfl trivial ?_
      refine pg_pick [0, 1, 2, 3, 4, 5, 6, 7] rfl ?_
      refine hK e ?_
      rw [mt_su_n, show n = x by omega]
      rw [show n = x by omega] at hI
      exact hI
    · exact (by exfalso; omega)
  | succ d ih =>
    intro e x hd hx hI
    obtain ⟨hn1, hn2⟩ := id hn
    have q1 := mt_pt_bd hn1 hn2 (mt_mod hn1 x) (mt_mod hn1 (y + j))
    have q2 := mt_pt_bd hn1 hn2 (mt_mod hn1 (u + x)) (mt_mod hn1 (y + (w - 1 - j)))
    have q3 := hC (mt_pt n (x % n) ((y + j) % n)).toNat (by omega)
    have q4 := hC (mt_pt n ((u + x) % n) ((y + (w - 1 - j)) % n)).toNat (by omega)
    have eu : u + x = u + x := rfl
    refine pg_br 3 (L := []) (P := pg_inR x ∧ pg_inR n) (c := n ≤ x) (st1 := (113, [(0, .inr (.inr 0)), (1, .inl y), (2, .inl w), (3, .inl 1), (4, .inl 0), (5, .inl u), (6, .inl e), (7, .inl j), (8, .inl x)], [], rm g s n)) (st2 := (24, [(0, .inr (.inr 0)), (1, .inl y), (2, .inl w), (3, .inl 1), (4, .inl 0), (5, .inl u), (6, .inl e), (7, .inl j), (8, .inl x)], [], rm g s n)) rfl trivial ⟨⟨by omega, by omega⟩, ⟨by omega, by omega⟩⟩ (fun c_21_2 => ?_) (fun c_21_2 => ?_)
    · exact (by exfalso; omega)
    · refine pg_br 1 (L := []) (P := pg_inR 1) (c := 1 = 0) (st1 := (37, [(0, .inr (.inr 0)), (1, .inl y), (2, .inl w), (3, .inl 1), (4, .inl 0), (5, .inl u), (6, .inl e), (7, .inl j), (8, .inl x)], [], rm g s n)) (st2 := (28, [(0, .inr (.inr 0)), (1, .inl y), (2, .inl w), (3, .inl 1), (4, .inl 0), (5, .inl u), (6, .inl e), (7, .inl j), (8, .inl x)], [], rm g s n)) rfl trivial ⟨by decide, by decide⟩ (fun c_25_3 => ?_) (fun c_25_3 => ?_)
      · exact absurd c_25_3 (by decide)
      · refine pg_br 8 (L := []) (P := pg_inR e) (c := e = 0) (st1 := (104, [(0, .inr (.inr 0)), (1, .inl y), (2, .inl w), (3, .inl 1), (4, .inl 0), (5, .inl u), (6, .inl e), (7, .inl j), (8, .inl x), (9, .inl ((w - 1) - j))], [], rm g s n)) (st2 := (46, [(0, .inr (.inr 0)), (1, .inl y), (2, .inl w), (3, .inl 1), (4, .inl 0), (5, .inl u), (6, .inl e), (7, .inl j), (8, .inl x), (9, .inl ((w - 1) - j))], [], rm g s n)) rfl trivial ⟨by omega, by omega⟩ (fun c_43_4 => ?_) (fun c_43_4 => ?_)
        · refine pg_go 4 (L := []) (st' := (15, [(0, .inr (.inr 0)), (1, .inl y), (2, .inl w), (3, .inl 1), (4, .inl 0), (5, .inl u), (6, .inl 0), (7, .inl j), (8, .inl (x + 1)), (9, .inl ((w - 1) - j))], [], rm g s n)) rfl trivial ?_
          refine pg_pick [0, 1, 2, 3, 4, 5, 6, 7, 8] rfl ?_
          refine ih _ _ (by omega) (by omega) ?_
          rw [mt_su_s (by omega) (by omega)]
          refine Or.inr ⟨rfl, ?_⟩
          rcases hI with h1 | h1
          · rintro ⟨-, h2⟩
            rw [if_pos (show (0 : Int) = 0 from rfl), if_neg (show ¬ (1 : Int) = 0 by decide)] at h2
            omega
          · exact fun h2 => h1.2 h2.1
        · refine pg_br 6 (L := [pg_inR u]) (P := pg_inR 0) (c := 0 = 0) (st1 := (65, [(0, .inr (.inr 0)), (1, .inl y), (2, .inl w), (3, .inl 1), (4, .inl 0), (5, .inl u), (6, .inl e), (7, .inl j), (8, .inl x), (9, .inl ((w - 1) - j))], [.inr (.inl u), .inr (.inr 0), .inr (.inr 1)], rm g s n)) (st2 := (59, [(0, .inr (.inr 0)), (1, .inl y), (2, .inl w), (3, .inl 1), (4, .inl 0), (5, .inl u), (6, .inl e), (7, .inl j), (8, .inl x), (9, .inl ((w - 1) - j))], [.inr (.inl u), .inr (.inr 0), .inr (.inr 1)], rm g s n)) rfl ⟨by omega, by omega⟩ ⟨by decide, by decide⟩ (fun c_56_5 => ?_) (fun c_56_5 => ?_)
          · refine pg_ca 8 (L := [pg_inR x, pg_inR y, pg_inR ((w - 1) - j)]) (Mc := pm_T_at) (as := [.inr (.inr 0), .inr (.inl (u + x)), .inr (.inl (y + ((w - 1) - j)))]) (h0 := rm g s n) (pc := 78) (lv := [(0, .inr (.inr 0)), (1, .inl y), (2, .inl w), (3, .inl 1), (4, .inl 0), (5, .inl u), (6, .inl e), (7, .inl j), (8, .inl x), (9, .inl ((w - 1) - j))]) (rest := [.inr (.inr 1)]) rfl ⟨⟨by omega, by omega⟩, ⟨by omega, by omega⟩, ⟨by omega, by omega⟩⟩ (re_at (g := g) (s := s) hn (u + x) (y + ((w - 1) - j)) ⟨by omega, by omega⟩ ⟨by omega, by omega⟩) ?_
            intro r_1 h_1 e_1; rw [e_1.1, e_1.2]
            refine pg_ca 11 (L := [0 ≤ (mt_pt n ((u + x) % n) ((y + ((w - 1) - j)) % n)) ∧ (mt_pt n ((u + x) % n) ((y + ((w - 1) - j)) % n)) < (144 : Int), pg_inR x, pg_inR y, pg_inR j]) (Mc := pm_T_at) (as := [.inr (.inr 0), .inr (.inl x), .inr (.inl (y + j))]) (h0 := rm g s n) (pc := 96) (lv := [(0, .inr (.inr 0)), (1, .inl y), (2, .inl w), (3, .inl 1), (4, .inl 0), (5, .inl u), (6, .inl e), (7, .inl j), (8, .inl x), (9, .inl ((w - 1) - j))]) (rest := [.inr (.inr 1), .inl (g 1 ((mt_pt n ((u + x) % n) ((y + ((w - 1) - j)) % n)).toNat))]) rfl ⟨⟨by omega, by omega⟩, ⟨by omega, by omega⟩, ⟨by omega, by omega⟩, ⟨by omega, by omega⟩⟩ (re_at (g := g) (s := s) hn x (y + j) ⟨by omega, by omega⟩ ⟨by omega, by omega⟩) ?_
            intro r_1 h_1 e_1; rw [e_1.1, e_1.2]
            refine pg_br 1 (L := [0 ≤ (mt_pt n (x % n) ((y + j) % n)) ∧ (mt_pt n (x % n) ((y + j) % n)) < (144 : Int)]) (P := pg_inR (g 1 ((mt_pt n ((u + x) % n) ((y + ((w - 1) - j)) % n)).toNat)) ∧ pg_inR (g 1 ((mt_pt n (x % n) ((y + j) % n)).toNat))) (c := ¬ (g 1 ((mt_pt n ((u + x) % n) ((y + ((w - 1) - j)) % n)).toNat)) = (g 1 ((mt_pt n (x % n) ((y + j) % n)).toNat))) (st1 := (104, [(0, .inr (.inr 0)), (1, .inl y), (2, .inl w), (3, .inl 1), (4, .inl 0), (5, .inl u), (6, .inl e), (7, .inl j), (8, .inl x), (9, .inl ((w - 1) - j))], [], rm g s n)) (st2 := (100, [(0, .inr (.inr 0)), (1, .inl y), (2, .inl w), (3, .inl 1), (4, .inl 0), (5, .inl u), (6, .inl e), (7, .inl j), (8, .inl x), (9, .inl ((w - 1) - j))], [], rm g s n)) rfl ⟨by omega, by omega⟩ ⟨⟨by omega, by omega⟩, ⟨by omega, by omega⟩⟩ (fun c_97_6 => ?_) (fun c_97_6 => ?_)
            · refine pg_go 4 (L := []) (st' := (15, [(0, .inr (.inr 0)), (1, .inl y), (2, .inl w), (3, .inl 1), (4, .inl 0), (5, .inl u), (6, .inl 0), (7, .inl j), (8, .inl (x + 1)), (9, .inl ((w - 1) - j))], [], rm g s n)) rfl trivial ?_
              refine pg_pick [0, 1, 2, 3, 4, 5, 6, 7, 8] rfl ?_
              refine ih _ _ (by omega) (by omega) ?_
              rw [mt_su_s (by omega) (by omega)]
              refine Or.inr ⟨rfl, ?_⟩
              rcases hI with h1 | h1
              · rintro ⟨-, h2⟩
                rw [if_pos (show (0 : Int) = 0 from rfl), if_neg (show ¬ (1 : Int) = 0 by decide)] at h2
                omega
              · exact fun h2 => h1.2 h2.1
            · refine pg_go 5 (L := []) (st' := (15, [(0, .inr (.inr 0)), (1, .inl y), (2, .inl w), (3, .inl 1), (4, .inl 0), (5, .inl u), (6, .inl 1), (7, .inl j), (8, .inl (x + 1)), (9, .inl ((w - 1) - j))], [], rm g s n)) rfl trivial ?_
              refine pg_pick [0, 1, 2, 3, 4, 5, 6, 7, 8] rfl ?_
              refine ih _ _ (by omega) (by omega) ?_
              rw [mt_su_s (by omega) (by omega)]
              rcases hI with h1 | h1
              · refine Or.inl ⟨rfl, h1.2, ?_⟩
                rw [if_pos (show (0 : Int) = 0 from rfl), if_neg (show ¬ (1 : Int) = 0 by decide)]
                omega
              · exfalso; omega
          · exact absurd c_56_5 (by decide)
set_option maxRecDepth 20000 in
set_option maxHeartbeats 4000000 in
theorem re_is_j10 {g : pg_H} {s n : Int} (hn : 1 ≤ n ∧ n ≤ 12) (hC : ri_C g) {y w u : Int} (hy : 0 ≤ y ∧ y < n) (hw : 1 ≤ w ∧ w ≤ n) (hu : 0 ≤ u ∧ u < n) : ∀ (d : Nat) (e j : Int) (hd : j + (d : Int) = w) (hj : 0 ≤ j) (hI : (e = 1 ∧ mt_su (g 1) n y w 1 0 u j 0) ∨ (e = 0 ∧ ¬ mt_su (g 1) n y w 1 0 u j 0)), pg_Good false pm_T_isStrip (fun r h' => r = some (.inl (pg_b (mt_st (g 1) n y w 1 0 u))) ∧ h' = rm g s n) (6, [(0, .inr (.inr 0)), (1, .inl y), (2, .inl w), (3, .inl 1), (4, .inl 0), (5, .inl u), (6, .inl e), (7, .inl j)], [], rm g s n) := by
  intro d
  induction d with
  | zero =>
    intro e j hd hj hI
    obtain ⟨hn1, hn2⟩ := id hn
    refine pg_br 2 (L := []) (P := pg_inR j ∧ pg_inR w) (c := w ≤ j) (st1 := (119, [(0, .inr (.inr 0)), (1, .inl y), (2, .inl w), (3, .inl 1), (4, .inl 0), (5, .inl u), (6, .inl e), (7, .inl j)], [], rm g s n)) (st2 := (12, [(0, .inr (.inr 0)), (1, .inl y), (2, .inl w), (3, .inl 1), (4, .inl 0), (5, .inl u), (6, .inl e), (7, .inl j)], [], rm g s n)) rfl trivial ⟨⟨by omega, by omega⟩, ⟨by omega, by omega⟩⟩ (fun c_9_1 => ?_) (fun c_9_1 => ?_)
    · refine pg_re 1 (L := [e = 0 ∨ e = 1]) (r := some (.inl e)) (h0 := rm g s n) rfl (by (show _ ∨ _); omega) ?_
      refine ⟨?_, rfl⟩
      rcases hI with h1 | h1
      · rw [h1.1, pg_b_t (P := mt_st (g 1) n y w 1 0 u) (fun a b k1 k2 k3 k4 => h1.2 a b k1 k2 k3 k4 (by omega))]
      · rw [h1.1, pg_b_f (P := mt_st (g 1) n y w 1 0 u) (fun h2 => h1.2 (fun a b k1 k2 k3 k4 _ => h2 a b k1 k2 k3 k4))]
    · exact (by exfalso; omega)
  | succ d ih =>
    intro e j hd hj hI
    obtain ⟨hn1, hn2⟩ := id hn
    refine pg_br 2 (L := []) (P := pg_inR j ∧ pg_inR w) (c := w ≤ j) (st1 := (119, [(0, .inr (.inr 0)), (1, .inl y), (2, .inl w), (3, .inl 1), (4, .inl 0), (5, .inl u), (6, .inl e), (7, .inl j)], [], rm g s n)) (st2 := (12, [(0, .inr (.inr 0)), (1, .inl y), (2, .inl w), (3, .inl 1), (4, .inl 0), (5, .inl u), (6, .inl e), (7, .inl j)], [], rm g s n)) rfl trivial ⟨⟨by omega, by omega⟩, ⟨by omega, by omega⟩⟩ (fun c_9_2 => ?_) (fun c_9_2 => ?_)
    · exact (by exfalso; omega)
    · refine pg_go 2 (L := []) (st' := (15, [(0, .inr (.inr 0)), (1, .inl y), (2, .inl w), (3, .inl 1), (4, .inl 0), (5, .inl u), (6, .inl e), (7, .inl j), (8, .inl 0)], [], rm g s n)) rfl trivial ?_
      exact re_is_x10 hn hC hy hw hu (j := j) (by omega) (fun e2 h2 => ih e2 _ (by omega) (by omega) h2) n.toNat e 0 (by omega) (by omega) hI
theorem re_is_10 {g : pg_H} {s n : Int} (hn : 1 ≤ n ∧ n ≤ 12) (hC : ri_C g) (y w u : Int) (hy : 0 ≤ y ∧ y < n) (hw : 1 ≤ w ∧ w ≤ n) (hu : 0 ≤ u ∧ u < n) : pg_Sem false pm_T_isStrip [.inr (.inr 0), .inl y, .inl w, .inl 1, .inl 0, .inl u] (rm g s n) (fun r h' => r = some (.inl (pg_b (mt_st (g 1) n y w 1 0 u))) ∧ h' = rm g s n) := by
  refine pg_Sem_of pm_T_isStrip_f rfl ?_
  refine pg_go 4 (L := []) (st' := (6, [(0, .inr (.inr 0)), (1, .inl y), (2, .inl w), (3, .inl 1), (4, .inl 0), (5, .inl u), (6, .inl 1), (7, .inl 0)], [], rm g s n)) rfl trivial ?_
  refine re_is_j10 hn hC hy hw hu w.toNat 1 0 (by omega) (by omega) (Or.inl ⟨rfl, ?_⟩)
  intro a b k1 k2 k3 k4 k5; omega
set_option maxRecDepth 20000 in
set_option maxHeartbeats 4000000 in
theorem re_is_x11 {g : pg_H} {s n : Int} (hn : 1 ≤ n ∧ n ≤ 12) (hC : ri_C g) {y w u : Int} (hy : 0 ≤ y ∧ y < n) (hw : 1 ≤ w ∧ w ≤ n) (hu : 0 ≤ u ∧ u < n) {j : Int} (hj : 0 ≤ j ∧ j < w) (hK : ∀ e2 : Int, (e2 = 1 ∧ mt_su (g 1) n y w 1 1 u (j + 1) 0) ∨ (e2 = 0 ∧ ¬ mt_su (g 1) n y w 1 1 u (j + 1) 0) → pg_Good false pm_T_isStrip (fun r h' => r = some (.inl (pg_b (mt_st (g 1) n y w 1 1 u))) ∧ h' = rm g s n) (6, [(0, .inr (.inr 0)), (1, .inl y), (2, .inl w), (3, .inl 1), (4, .inl 1), (5, .inl u), (6, .inl e2), (7, .inl (j + 1))], [], rm g s n)) : ∀ (d : Nat) (e x : Int) (hd : x + (d : Int) = n) (hx : 0 ≤ x) (hI : (e = 1 ∧ mt_su (g 1) n y w 1 1 u j x) ∨ (e = 0 ∧ ¬ mt_su (g 1) n y w 1 1 u j x)), pg_Good false pm_T_isStrip (fun r h' => r = some (.inl (pg_b (mt_st (g 1) n y w 1 1 u))) ∧ h' = rm g s n) (15, [(0, .inr (.inr 0)), (1, .inl y), (2, .inl w), (3, .inl 1), (4, .inl 1), (5, .inl u), (6, .inl e), (7, .inl j), (8, .inl x)], [], rm g s n) := by
  intro d
  induction d with
  | zero =>
    intro e x hd hx hI
    obtain ⟨hn1, hn2⟩ := id hn
    refine pg_br 3 (L := []) (P := pg_inR x ∧ pg_inR n) (c := n ≤ x) (st1 := (113, [(0, .inr (.inr 0)), (1, .inl y), (2, .inl w), (3, .inl 1), (4, .inl 1), (5, .inl u), (6, .inl e), (7, .inl j), (8, .inl x)], [], rm g s n)) (st2 := (24, [(0, .inr (.inr 0)), (1, .inl y), (2, .inl w), (3, .inl 1), (4, .inl 1), (5, .inl u), (6, .inl e), (7, .inl j), (8, .inl x)], [], rm g s n)) rfl trivial ⟨⟨by omega, by omega⟩, ⟨by omega, by omega⟩⟩ (fun c_21_1 => ?_) (fun c_21_1 => ?_)
    · refine pg_go 2 (L := []) (st' := (6, [(0, .inr (.inr 0)), (1, .inl y), (2, .inl w), (3, .inl 1), (4, .inl 1), (5, .inl u), (6, .inl e), (7, .inl (j + 1)), (8, .inl x)], [], rm g s n)) rfl trivial ?_
      refine pg_pick [0, 1, 2, 3, 4, 5, 6, 7] rfl ?_
      refine hK e ?_
      rw [mt_su_n, show n = x by omega]
      rw [show n = x by omega] at hI
      exact hI
    · exact (by exfalso; omega)
  | succ d ih =>
    intro e x hd hx hI
    obtain ⟨hn1, hn2⟩ := id hn
    have q1 := mt_pt_bd hn1 hn2 (mt_mod hn1 x) (mt_mod hn1 (y + j))
    have q2 := mt_pt_bd hn1 hn2 (mt_mod hn1 (u + -x)) (mt_mod hn1 (y + (w - 1 - j)))
    have q3 := hC (mt_pt n (x % n) ((y + j) % n)).toNat (by omega)
    have q4 := hC (mt_pt n ((u + -x) % n) ((y + (w - 1 - j)) % n)).toNat (by omega)
    have eu : u + -x = u - x := by omega
    refine pg_br 3 (L := []) (P := pg_inR x ∧ pg_inR n) (c := n ≤ x) (st1 := (113, [(0, .inr (.inr 0)), (1, .inl y), (2, .inl w), (3, .inl 1), (4, .inl 1), (5, .inl u), (6, .inl e), (7, .inl j), (8, .inl x)], [], rm g s n)) (st2 := (24, [(0, .inr (.inr 0)), (1, .inl y), (2, .inl w), (3, .inl 1), (4, .inl 1), (5, .inl u), (6, .inl e), (7, .inl j), (8, .inl x)], [], rm g s n)) rfl trivial ⟨⟨by omega, by omega⟩, ⟨by omega, by omega⟩⟩ (fun c_21_2 => ?_) (fun c_21_2 => ?_)
    · exact (by exfalso; omega)
    · refine pg_br 1 (L := []) (P := pg_inR 1) (c := 1 = 0) (st1 := (37, [(0, .inr (.inr 0)), (1, .inl y), (2, .inl w), (3, .inl 1), (4, .inl 1), (5, .inl u), (6, .inl e), (7, .inl j), (8, .inl x)], [], rm g s n)) (st2 := (28, [(0, .inr (.inr 0)), (1, .inl y), (2, .inl w), (3, .inl 1), (4, .inl 1), (5, .inl u), (6, .inl e), (7, .inl j), (8, .inl x)], [], rm g s n)) rfl trivial ⟨by decide, by decide⟩ (fun c_25_3 => ?_) (fun c_25_3 => ?_)
      · exact absurd c_25_3 (by decide)
      · refine pg_br 8 (L := []) (P := pg_inR e) (c := e = 0) (st1 := (104, [(0, .inr (.inr 0)), (1, .inl y), (2, .inl w), (3, .inl 1), (4, .inl 1), (5, .inl u), (6, .inl e), (7, .inl j), (8, .inl x), (9, .inl ((w - 1) - j))], [], rm g s n)) (st2 := (46, [(0, .inr (.inr 0)), (1, .inl y), (2, .inl w), (3, .inl 1), (4, .inl 1), (5, .inl u), (6, .inl e), (7, .inl j), (8, .inl x), (9, .inl ((w - 1) - j))], [], rm g s n)) rfl trivial ⟨by omega, by omega⟩ (fun c_43_4 => ?_) (fun c_43_4 => ?_)
        · refine pg_go 4 (L := []) (st' := (15, [(0, .inr (.inr 0)), (1, .inl y), (2, .inl w), (3, .inl 1), (4, .inl 1), (5, .inl u), (6, .inl 0), (7, .inl j), (8, .inl (x + 1)), (9, .inl ((w - 1) - j))], [], rm g s n)) rfl trivial ?_
          refine pg_pick [0, 1, 2, 3, 4, 5, 6, 7, 8] rfl ?_
          refine ih _ _ (by omega) (by omega) ?_
          rw [mt_su_s (by omega) (by omega)]
          refine Or.inr ⟨rfl, ?_⟩
          rcases hI with h1 | h1
          · rintro ⟨-, h2⟩
            rw [if_neg (show ¬ (1 : Int) = 0 by decide), if_neg (show ¬ (1 : Int) = 0 by decide)] at h2; rw [← eu] at h2
            omega
          · exact fun h2 => h1.2 h2.1
        · refine pg_br 6 (L := [pg_inR u]) (P := pg_inR 1) (c := 1 = 0) (st1 := (65, [(0, .inr (.inr 0)), (1, .inl y), (2, .inl w), (3, .inl 1), (4, .inl 1), (5, .inl u), (6, .inl e), (7, .inl j), (8, .inl x), (9, .inl ((w - 1) - j))], [.inr (.inl u), .inr (.inr 0), .inr (.inr 1)], rm g s n)) (st2 := (59, [(0, .inr (.inr 0)), (1, .inl y), (2, .inl w), (3, .inl 1), (4, .inl 1), (5, .inl u), (6, .inl e), (7, .inl j), (8, .inl x), (9, .inl ((w - 1) - j))], [.inr (.inl u), .inr (.inr 0), .inr (.inr 1)], rm g s n)) rfl ⟨by omega, by omega⟩ ⟨by decide, by decide⟩ (fun c_56_5 => ?_) (fun c_56_5 => ?_)
          · exact absurd c_56_5 (by decide)
          · refine pg_ca 10 (L := [pg_inR (-x), pg_inR y, pg_inR ((w - 1) - j)]) (Mc := pm_T_at) (as := [.inr (.inr 0), .inr (.inl (u + (-x))), .inr (.inl (y + ((w - 1) - j)))]) (h0 := rm g s n) (pc := 78) (lv := [(0, .inr (.inr 0)), (1, .inl y), (2, .inl w), (3, .inl 1), (4, .inl 1), (5, .inl u), (6, .inl e), (7, .inl j), (8, .inl x), (9, .inl ((w - 1) - j))]) (rest := [.inr (.inr 1)]) rfl ⟨⟨by omega, by omega⟩, ⟨by omega, by omega⟩, ⟨by omega, by omega⟩⟩ (re_at (g := g) (s := s) hn (u + (-x)) (y + ((w - 1) - j)) ⟨by omega, by omega⟩ ⟨by omega, by omega⟩) ?_
            intro r_1 h_1 e_1; rw [e_1.1, e_1.2]
            refine pg_ca 11 (L := [0 ≤ (mt_pt n ((u + (-x)) % n) ((y + ((w - 1) - j)) % n)) ∧ (mt_pt n ((u + (-x)) % n) ((y + ((w - 1) - j)) % n)) < (144 : Int), pg_inR x, pg_inR y, pg_inR j]) (Mc := pm_T_at) (as := [.inr (.inr 0), .inr (.inl x), .inr (.inl (y + j))]) (h0 := rm g s n) (pc := 96) (lv := [(0, .inr (.inr 0)), (1, .inl y), (2, .inl w), (3, .inl 1), (4, .inl 1), (5, .inl u), (6, .inl e), (7, .inl j), (8, .inl x), (9, .inl ((w - 1) - j))]) (rest := [.inr (.inr 1), .inl (g 1 ((mt_pt n ((u + (-x)) % n) ((y + ((w - 1) - j)) % n)).toNat))]) rfl ⟨⟨by omega, by omega⟩, ⟨by omega, by omega⟩, ⟨by omega, by omega⟩, ⟨by omega, by omega⟩⟩ (re_at (g := g) (s := s) hn x (y + j) ⟨by omega, by omega⟩ ⟨by omega, by omega⟩) ?_
            intro r_1 h_1 e_1; rw [e_1.1, e_1.2]
            refine pg_br 1 (L := [0 ≤ (mt_pt n (x % n) ((y + j) % n)) ∧ (mt_pt n (x % n) ((y + j) % n)) < (144 : Int)]) (P := pg_inR (g 1 ((mt_pt n ((u + (-x)) % n) ((y + ((w - 1) - j)) % n)).toNat)) ∧ pg_inR (g 1 ((mt_pt n (x % n) ((y + j) % n)).toNat))) (c := ¬ (g 1 ((mt_pt n ((u + (-x)) % n) ((y + ((w - 1) - j)) % n)).toNat)) = (g 1 ((mt_pt n (x % n) ((y + j) % n)).toNat))) (st1 := (104, [(0, .inr (.inr 0)), (1, .inl y), (2, .inl w), (3, .inl 1), (4, .inl 1), (5, .inl u), (6, .inl e), (7, .inl j), (8, .inl x), (9, .inl ((w - 1) - j))], [], rm g s n)) (st2 := (100, [(0, .inr (.inr 0)), (1, .inl y), (2, .inl w), (3, .inl 1), (4, .inl 1), (5, .inl u), (6, .inl e), (7, .inl j), (8, .inl x), (9, .inl ((w - 1) - j))], [], rm g s n)) rfl ⟨by omega, by omega⟩ ⟨⟨by omega, by omega⟩, ⟨by omega, by omega⟩⟩ (fun c_97_6 => ?_) (fun c_97_6 => ?_)
            · refine pg_go 4 (L := []) (st' := (15, [(0, .inr (.inr 0)), (1, .inl y), (2, .inl w), (3, .inl 1), (4, .inl 1), (5, .inl u), (6, .inl 0), (7, .inl j), (8, .inl (x + 1)), (9, .inl ((w - 1) - j))], [], rm g s n)) rfl trivial ?_
              refine pg_pick [0, 1, 2, 3, 4, 5, 6, 7, 8] rfl ?_
              refine ih _ _ (by omega) (by omega) ?_
              rw [mt_su_s (by omega) (by omega)]
              refine Or.inr ⟨rfl, ?_⟩
              rcases hI with h1 | h1
              · rintro ⟨-, h2⟩
                rw [if_neg (show ¬ (1 : Int) = 0 by decide), if_neg (show ¬ (1 : Int) = 0 by decide)] at h2; rw [← eu] at h2
                omega
              · exact fun h2 => h1.2 h2.1
            · refine pg_go 5 (L := []) (st' := (15, [(0, .inr (.inr 0)), (1, .inl y), (2, .inl w), (3, .inl 1), (4, .inl 1), (5, .inl u), (6, .inl 1), (7, .inl j), (8, .inl (x + 1)), (9, .inl ((w - 1) - j))], [], rm g s n)) rfl trivial ?_
              refine pg_pick [0, 1, 2, 3, 4, 5, 6, 7, 8] rfl ?_
              refine ih _ _ (by omega) (by omega) ?_
              rw [mt_su_s (by omega) (by omega)]
              rcases hI with h1 | h1
              · refine Or.inl ⟨rfl, h1.2, ?_⟩
                rw [if_neg (show ¬ (1 : Int) = 0 by decide), if_neg (show ¬ (1 : Int) = 0 by decide)]; rw [← eu]
                omega
              · exfalso; omega
set_option maxRecDepth 20000 in
set_option maxHeartbeats 4000000 in
theorem re_is_j11 {g : pg_H} {s n : Int} (hn : 1 ≤ n ∧ n ≤ 12) (hC : ri_C g) {y w u : Int} (hy : 0 ≤ y ∧ y < n) (hw : 1 ≤ w ∧ w ≤ n) (hu : 0 ≤ u ∧ u < n) : ∀ (d : Nat) (e j : Int) (hd : j + (d : Int) = w) (hj : 0 ≤ j) (hI : (e = 1 ∧ mt_su (g 1) n y w 1 1 u j 0) ∨ (e = 0 ∧ ¬ mt_su (g 1) n y w 1 1 u j 0)), pg_Good false pm_T_isStrip (fun r h' => r = some (.inl (pg_b (mt_st (g 1) n y w 1 1 u))) ∧ h' = rm g s n) (6, [(0, .inr (.inr 0)), (1, .inl y), (2, .inl w), (3, .inl 1), (4, .inl 1), (5, .inl u), (6, .inl e), (7, .inl j)], [], rm g s n) := by
  intro d
  induction d with
  | zero =>
    intro e j hd hj hI
    obtain ⟨hn1, hn2⟩ := id hn
    refine pg_br 2 (L := []) (P := pg_inR j ∧ pg_inR w) (c := w ≤ j) (st1 := (119, [(0, .inr (.inr 0)), (1, .inl y), (2, .inl w), (3, .inl 1), (4, .inl 1), (5, .inl u), (6, .inl e), (7, .inl j)], [], rm g s n)) (st2 := (12, [(0, .inr (.inr 0)), (1, .inl y), (2, .inl w), (3, .inl 1), (4, .inl 1), (5, .inl u), (6, .inl e), (7, .inl j)], [], rm g s n)) rfl trivial ⟨⟨by omega, by omega⟩, ⟨by omega, by omega⟩⟩ (fun c_9_1 => ?_) (fun c_9_1 => ?_)
    · refine pg_re 1 (L := [e = 0 ∨ e = 1]) (r := some (.inl e)) (h0 := rm g s n) rfl (by (show _ ∨ _); omega) ?_
      refine ⟨?_, rfl⟩
      rcases hI with h1 | h1
      · rw [h1.1, pg_b_t (P := mt_st (g 1) n y w 1 1 u) (fun a b k1 k2 k3 k4 => h1.2 a b k1 k2 k3 k4 (by omega))]
      · rw [h1.1, pg_b_f (P := mt_st (g 1) n y w 1 1 u) (fun h2 => h1.2 (fun a b k1 k2 k3 k4 _ => h2 a b k1 k2 k3 k4))]
    · exact (by exfalso; omega)
  | succ d ih =>
    intro e j hd hj hI
    obtain ⟨hn1, hn2⟩ := id hn
    refine pg_br 2 (L := []) (P := pg_inR j ∧ pg_inR w) (c := w ≤ j) (st1 := (119, [(0, .inr (.inr 0)), (1, .inl y), (2, .inl w), (3, .inl 1), (4, .inl 1), (5, .inl u), (6, .inl e), (7, .inl j)], [], rm g s n)) (st2 := (12, [(0, .inr (.inr 0)), (1, .inl y), (2, .inl w), (3, .inl 1), (4, .inl 1), (5, .inl u), (6, .inl e), (7, .inl j)], [], rm g s n)) rfl trivial ⟨⟨by omega, by omega⟩, ⟨by omega, by omega⟩⟩ (fun c_9_2 => ?_) (fun c_9_2 => ?_)
    · exact (by exfalso; omega)
    · refine pg_go 2 (L := []) (st' := (15, [(0, .inr (.inr 0)), (1, .inl y), (2, .inl w), (3, .inl 1), (4, .inl 1), (5, .inl u), (6, .inl e), (7, .inl j), (8, .inl 0)], [], rm g s n)) rfl trivial ?_
      exact re_is_x11 hn hC hy hw hu (j := j) (by omega) (fun e2 h2 => ih e2 _ (by omega) (by omega) h2) n.toNat e 0 (by omega) (by omega) hI
theorem re_is_11 {g : pg_H} {s n : Int} (hn : 1 ≤ n ∧ n ≤ 12) (hC : ri_C g) (y w u : Int) (hy : 0 ≤ y ∧ y < n) (hw : 1 ≤ w ∧ w ≤ n) (hu : 0 ≤ u ∧ u < n) : pg_Sem false pm_T_isStrip [.inr (.inr 0), .inl y, .inl w, .inl 1, .inl 1, .inl u] (rm g s n) (fun r h' => r = some (.inl (pg_b (mt_st (g 1) n y w 1 1 u))) ∧ h' = rm g s n) := by
  refine pg_Sem_of pm_T_isStrip_f rfl ?_
  refine pg_go 4 (L := []) (st' := (6, [(0, .inr (.inr 0)), (1, .inl y), (2, .inl w), (3, .inl 1), (4, .inl 1), (5, .inl u), (6, .inl 1), (7, .inl 0)], [], rm g s n)) rfl trivial ?_
  refine re_is_j11 hn hC hy hw hu w.toNat 1 0 (by omega) (by omega) (Or.inl ⟨rfl, ?_⟩)
  intro a b k1 k2 k3 k4 k5; omega
set_option maxRecDepth 20000 in
set_option maxHeartbeats 4000000 in
theorem re_hs_l10 {g : pg_H} {s n : Int} (hn : 1 ≤ n ∧ n ≤ 12) (hC : ri_C g) {y w : Int} (hy : 0 ≤ y ∧ y < n) (hw : 1 ≤ w ∧ w ≤ n) : ∀ (d : Nat) (e u : Int) (hd : u + (d : Int) = n) (hu : 0 ≤ u) (hI : (e = 1 ∧ mt_sv (g 1) n y w 1 0 u.toNat) ∨ (e = 0 ∧ ¬ mt_sv (g 1) n y w 1 0 u.toNat)), pg_Good false pm_T_hasStrip (fun r h' => r = some (.inl (pg_b (mt_sx (g 1) n y w 1 0))) ∧ h' = rm g s n) (6, [(0, .inr (.inr 0)), (1, .inl y), (2, .inl w), (3, .inl 1), (4, .inl 0), (5, .inl e), (6, .inl u)], [], rm g s n) := by
  intro d
  induction d with
  | zero =>
    intro e u hd hu hI
    obtain ⟨hn1, hn2⟩ := id hn
    refine pg_br 3 (L := []) (P := pg_inR u ∧ pg_inR n) (c := n ≤ u) (st1 := (47, [(0, .inr (.inr 0)), (1, .inl y), (2, .inl w), (3, .inl 1), (4, .inl 0), (5, .inl e), (6, .inl u)], [], rm g s n)) (st2 := (15, [(0, .inr (.inr 0)), (1, .inl y), (2, .inl w), (3, .inl 1), (4, .inl 0), (5, .inl e), (6, .inl u)], [], rm g s n)) rfl trivial ⟨⟨by omega, by omega⟩, ⟨by omega, by omega⟩⟩ (fun c_12_1 => ?_) (fun c_12_1 => ?_)
    · refine pg_re 1 (L := [e = 0 ∨ e = 1]) (r := some (.inl e)) (h0 := rm g s n) rfl (by (show _ ∨ _); omega) ?_
      refine ⟨?_, rfl⟩
      have exn : u.toNat = n.toNat := by omega
      rw [exn, mt_sv_x] at hI
      rcases hI with h1 | h1
      · rw [h1.1, pg_b_t h1.2]
      · rw [h1.1, pg_b_f h1.2]
    · exact (by exfalso; omega)
  | succ d ih =>
    intro e u hd hu hI
    obtain ⟨hn1, hn2⟩ := id hn
    have ek : (u + 1).toNat = u.toNat + 1 := by omega
    have eu : ((u.toNat : Nat) : Int) = u := by omega
    refine pg_br 3 (L := []) (P := pg_inR u ∧ pg_inR n) (c := n ≤ u) (st1 := (47, [(0, .inr (.inr 0)), (1, .inl y), (2, .inl w), (3, .inl 1), (4, .inl 0), (5, .inl e), (6, .inl u)], [], rm g s n)) (st2 := (15, [(0, .inr (.inr 0)), (1, .inl y), (2, .inl w), (3, .inl 1), (4, .inl 0), (5, .inl e), (6, .inl u)], [], rm g s n)) rfl trivial ⟨⟨by omega, by omega⟩, ⟨by omega, by omega⟩⟩ (fun c_12_2 => ?_) (fun c_12_2 => ?_)
    · exact (by exfalso; omega)
    · refine pg_br 1 (L := []) (P := pg_inR e) (c := ¬ e = 0) (st1 := (34, [(0, .inr (.inr 0)), (1, .inl y), (2, .inl w), (3, .inl 1), (4, .inl 0), (5, .inl e), (6, .inl u)], [], rm g s n)) (st2 := (20, [(0, .inr (.inr 0)), (1, .inl y), (2, .inl w), (3, .inl 1), (4, .inl 0), (5, .inl e), (6, .inl u)], [], rm g s n)) rfl trivial ⟨by omega, by omega⟩ (fun c_17_3 => ?_) (fun c_17_3 => ?_)
      · refine pg_go 5 (L := []) (st' := (6, [(0, .inr (.inr 0)), (1, .inl y), (2, .inl w), (3, .inl 1), (4, .inl 0), (5, .inl 1), (6, .inl (u + 1))], [], rm g s n)) rfl trivial ?_
        refine ih _ _ (by omega) (by omega) ?_
        rw [ek, mt_sv_s, eu]
        refine Or.inl ⟨rfl, ?_⟩
        rcases hI with h1 | h1
        · exact Or.inl h1.2
        · first | (exfalso; omega) | (right; rcases hbf with h2 | h2; (· exact h2.1); (· exfalso; omega))
      · refine pg_ca 6 (L := []) (Mc := pm_T_isStrip) (as := [.inr (.inr 0), .inl y, .inl w, .inl 1, .inl 0, .inl u]) (h0 := rm g s n) (pc := 31) (lv := [(0, .inr (.inr 0)), (1, .inl y), (2, .inl w), (3, .inl 1), (4, .inl 0), (5, .inl e), (6, .inl u)]) (rest := []) rfl trivial (re_is_10 (g := g) (s := s) hn hC y w u ⟨by omega, by omega⟩ ⟨by omega, by omega⟩ ⟨by omega, by omega⟩) ?_
        intro r_1 h_1 e_1; rw [e_1.1, e_1.2]; have hbf := pg_b_or (mt_st (g 1) n y w 1 0 u)
        refine pg_br 0 (L := []) (P := pg_inR (pg_b (mt_st (g 1) n y w 1 0 u))) (c := (pg_b (mt_st (g 1) n y w 1 0 u)) = 0) (st1 := (38, [(0, .inr (.inr 0)), (1, .inl y), (2, .inl w), (3, .inl 1), (4, .inl 0), (5, .inl e), (6, .inl u)], [], rm g s n)) (st2 := (34, [(0, .inr (.inr 0)), (1, .inl y), (2, .inl w), (3, .inl 1), (4, .inl 0), (5, .inl e), (6, .inl u)], [], rm g s n)) rfl trivial ⟨by omega, by omega⟩ (fun c_31_4 => ?_) (fun c_31_4 => ?_)
        · refine pg_go 4 (L := []) (st' := (6, [(0, .inr (.inr 0)), (1, .inl y), (2, .inl w), (3, .inl 1), (4, .inl 0), (5, .inl 0), (6, .inl (u + 1))], [], rm g s n)) rfl trivial ?_
          refine ih _ _ (by omega) (by omega) ?_
          rw [ek, mt_sv_s, eu]
          refine Or.inr ⟨rfl, ?_⟩
          rcases hI with h1 | h1
          · exfalso; omega
          · rintro (h2 | h2)
            · exact h1.2 h2
            · rcases hbf with h3 | h3
              · omega
              · exact h3.1 h2
        · refine pg_go 5 (L := []) (st' := (6, [(0, .inr (.inr 0)), (1, .inl y), (2, .inl w), (3, .inl 1), (4, .inl 0), (5, .inl 1), (6, .inl (u + 1))], [], rm g s n)) rfl trivial ?_
          refine ih _ _ (by omega) (by omega) ?_
          rw [ek, mt_sv_s, eu]
          refine Or.inl ⟨rfl, ?_⟩
          rcases hI with h1 | h1
          · exact Or.inl h1.2
          · first | (exfalso; omega) | (right; rcases hbf with h2 | h2; (· exact h2.1); (· exfalso; omega))
theorem re_hs_10 {g : pg_H} {s n : Int} (hn : 1 ≤ n ∧ n ≤ 12) (hC : ri_C g) (y w : Int) (hy : 0 ≤ y ∧ y < n) (hw : 1 ≤ w ∧ w ≤ n) : pg_Sem false pm_T_hasStrip [.inr (.inr 0), .inl y, .inl w, .inl 1, .inl 0] (rm g s n) (fun r h' => r = some (.inl (pg_b (mt_sx (g 1) n y w 1 0))) ∧ h' = rm g s n) := by
  obtain ⟨hn1, hn2⟩ := id hn
  refine pg_Sem_of pm_T_hasStrip_f rfl ?_
  refine pg_go 4 (L := []) (st' := (6, [(0, .inr (.inr 0)), (1, .inl y), (2, .inl w), (3, .inl 1), (4, .inl 0), (5, .inl 0), (6, .inl 0)], [], rm g s n)) rfl trivial ?_
  exact re_hs_l10 hn hC hy hw n.toNat 0 0 (by omega) (by omega) (Or.inr ⟨rfl, fun ⟨j, h, _⟩ => absurd h (by omega)⟩)
set_option maxRecDepth 20000 in
set_option maxHeartbeats 4000000 in
theorem re_hs_l01 {g : pg_H} {s n : Int} (hn : 1 ≤ n ∧ n ≤ 12) (hC : ri_C g) {y w : Int} (hy : 0 ≤ y ∧ y < n) (hw : 1 ≤ w ∧ w ≤ n) : ∀ (d : Nat) (e u : Int) (hd : u + (d : Int) = n) (hu : 0 ≤ u) (hI : (e = 1 ∧ mt_sv (g 1) n y w 0 1 u.toNat) ∨ (e = 0 ∧ ¬ mt_sv (g 1) n y w 0 1 u.toNat)), pg_Good false pm_T_hasStrip (fun r h' => r = some (.inl (pg_b (mt_sx (g 1) n y w 0 1))) ∧ h' = rm g s n) (6, [(0, .inr (.inr 0)), (1, .inl y), (2, .inl w), (3, .inl 0), (4, .inl 1), (5, .inl e), (6, .inl u)], [], rm g s n) := by
  intro d
  induction d with
  | zero =>
    intro e u hd hu hI
    obtain ⟨hn1, hn2⟩ := id hn
    refine pg_br 3 (L := []) (P := pg_inR u ∧ pg_inR n) (c := n ≤ u) (st1 := (47, [(0, .inr (.inr 0)), (1, .inl y), (2, .inl w), (3, .inl 0), (4, .inl 1), (5, .inl e), (6, .inl u)], [], rm g s n)) (st2 := (15, [(0, .inr (.inr 0)), (1, .inl y), (2, .inl w), (3, .inl 0), (4, .inl 1), (5, .inl e), (6, .inl u)], [], rm g s n)) rfl trivial ⟨⟨by omega, by omega⟩, ⟨by omega, by omega⟩⟩ (fun c_12_1 => ?_) (fun c_12_1 => ?_)
    · refine pg_re 1 (L := [e = 0 ∨ e = 1]) (r := some (.inl e)) (h0 := rm g s n) rfl (by (show _ ∨ _); omega) ?_
      refine ⟨?_, rfl⟩
      have exn : u.toNat = n.toNat := by omega
      rw [exn, mt_sv_x] at hI
      rcases hI with h1 | h1
      · rw [h1.1, pg_b_t h1.2]
      · rw [h1.1, pg_b_f h1.2]
    · exact (by exfalso; omega)
  | succ d ih =>
    intro e u hd hu hI
    obtain ⟨hn1, hn2⟩ := id hn
    have ek : (u + 1).toNat = u.toNat + 1 := by omega
    have eu : ((u.toNat : Nat) : Int) = u := by omega
    refine pg_br 3 (L := []) (P := pg_inR u ∧ pg_inR n) (c := n ≤ u) (st1 := (47, [(0, .inr (.inr 0)), (1, .inl y), (2, .inl w), (3, .inl 0), (4, .inl 1), (5, .inl e), (6, .inl u)], [], rm g s n)) (st2 := (15, [(0, .inr (.inr 0)), (1, .inl y), (2, .inl w), (3, .inl 0), (4, .inl 1), (5, .inl e), (6, .inl u)], [], rm g s n)) rfl trivial ⟨⟨by omega, by omega⟩, ⟨by omega, by omega⟩⟩ (fun c_12_2 => ?_) (fun c_12_2 => ?_)
    · exact (by exfalso; omega)
    · refine pg_br 1 (L := []) (P := pg_inR e) (c := ¬ e = 0) (st1 := (34, [(0, .inr (.inr 0)), (1, .inl y), (2, .inl w), (3, .inl 0), (4, .inl 1), (5, .inl e), (6, .inl u)], [], rm g s n)) (st2 := (20, [(0, .inr (.inr 0)), (1, .inl y), (2, .inl w), (3, .inl 0), (4, .inl 1), (5, .inl e), (6, .inl u)], [], rm g s n)) rfl trivial ⟨by omega, by omega⟩ (fun c_17_3 => ?_) (fun c_17_3 => ?_)
      · refine pg_go 5 (L := []) (st' := (6, [(0, .inr (.inr 0)), (1, .inl y), (2, .inl w), (3, .inl 0), (4, .inl 1), (5, .inl 1), (6, .inl (u + 1))], [], rm g s n)) rfl trivial ?_
        refine ih _ _ (by omega) (by omega) ?_
        rw [ek, mt_sv_s, eu]
        refine Or.inl ⟨rfl, ?_⟩
        rcases hI with h1 | h1
        · exact Or.inl h1.2
        · first | (exfalso; omega) | (right; rcases hbf with h2 | h2; (· exact h2.1); (· exfalso; omega))
      · refine pg_ca 6 (L := []) (Mc := pm_T_isStrip) (as := [.inr (.inr 0), .inl y, .inl w, .inl 0, .inl 1, .inl u]) (h0 := rm g s n) (pc := 31) (lv := [(0, .inr (.inr 0)), (1, .inl y), (2, .inl w), (3, .inl 0), (4, .inl 1), (5, .inl e), (6, .inl u)]) (rest := []) rfl trivial (re_is_01 (g := g) (s := s) hn hC y w u ⟨by omega, by omega⟩ ⟨by omega, by omega⟩ ⟨by omega, by omega⟩) ?_
        intro r_1 h_1 e_1; rw [e_1.1, e_1.2]; have hbf := pg_b_or (mt_st (g 1) n y w 0 1 u)
        refine pg_br 0 (L := []) (P := pg_inR (pg_b (mt_st (g 1) n y w 0 1 u))) (c := (pg_b (mt_st (g 1) n y w 0 1 u)) = 0) (st1 := (38, [(0, .inr (.inr 0)), (1, .inl y), (2, .inl w), (3, .inl 0), (4, .inl 1), (5, .inl e), (6, .inl u)], [], rm g s n)) (st2 := (34, [(0, .inr (.inr 0)), (1, .inl y), (2, .inl w), (3, .inl 0), (4, .inl 1), (5, .inl e), (6, .inl u)], [], rm g s n)) rfl trivial ⟨by omega, by omega⟩ (fun c_31_4 => ?_) (fun c_31_4 => ?_)
        · refine pg_go 4 (L := []) (st' := (6, [(0, .inr (.inr 0)), (1, .inl y), (2, .inl w), (3, .inl 0), (4, .inl 1), (5, .inl 0), (6, .inl (u + 1))], [], rm g s n)) rfl trivial ?_
          refine ih _ _ (by omega) (by omega) ?_
          rw [ek, mt_sv_s, eu]
          refine Or.inr ⟨rfl, ?_⟩
          rcases hI with h1 | h1
          · exfalso; omega
          · rintro (h2 | h2)
            · exact h1.2 h2
            · rcases hbf with h3 | h3
              · omega
              · exact h3.1 h2
        · refine pg_go 5 (L := []) (st' := (6, [(0, .inr (.inr 0)), (1, .inl y), (2, .inl w), (3, .inl 0), (4, .inl 1), (5, .inl 1), (6, .inl (u + 1))], [], rm g s n)) rfl trivial ?_
          refine ih _ _ (by omega) (by omega) ?_
          rw [ek, mt_sv_s, eu]
          refine Or.inl ⟨rfl, ?_⟩
          rcases hI with h1 | h1
          · exact Or.inl h1.2
          · first | (exfalso; omega) | (right; rcases hbf with h2 | h2; (· exact h2.1); (· exfalso; omega))
theorem re_hs_01 {g : pg_H} {s n : Int} (hn : 1 ≤ n ∧ n ≤ 12) (hC : ri_C g) (y w : Int) (hy : 0 ≤ y ∧ y < n) (hw : 1 ≤ w ∧ w ≤ n) : pg_Sem false pm_T_hasStrip [.inr (.inr 0), .inl y, .inl w, .inl 0, .inl 1] (rm g s n) (fun r h' => r = some (.inl (pg_b (mt_sx (g 1) n y w 0 1))) ∧ h' = rm g s n) := by
  obtain ⟨hn1, hn2⟩ := id hn
  refine pg_Sem_of pm_T_hasStrip_f rfl ?_
  refine pg_go 4 (L := []) (st' := (6, [(0, .inr (.inr 0)), (1, .inl y), (2, .inl w), (3, .inl 0), (4, .inl 1), (5, .inl 0), (6, .inl 0)], [], rm g s n)) rfl trivial ?_
  exact re_hs_l01 hn hC hy hw n.toNat 0 0 (by omega) (by omega) (Or.inr ⟨rfl, fun ⟨j, h, _⟩ => absurd h (by omega)⟩)
set_option maxRecDepth 20000 in
set_option maxHeartbeats 4000000 in
theorem re_hs_l11 {g : pg_H} {s n : Int} (hn : 1 ≤ n ∧ n ≤ 12) (hC : ri_C g) {y w : Int} (hy : 0 ≤ y ∧ y < n) (hw : 1 ≤ w ∧ w ≤ n) : ∀ (d : Nat) (e u : Int) (hd : u + (d : Int) = n) (hu : 0 ≤ u) (hI : (e = 1 ∧ mt_sv (g 1) n y w 1 1 u.toNat) ∨ (e = 0 ∧ ¬ mt_sv (g 1) n y w 1 1 u.toNat)), pg_Good false pm_T_hasStrip (fun r h' => r = some (.inl (pg_b (mt_sx (g 1) n y w 1 1))) ∧ h' = rm g s n) (6, [(0, .inr (.inr 0)), (1, .inl y), (2, .inl w), (3, .inl 1), (4, .inl 1), (5, .inl e), (6, .inl u)], [], rm g s n) := by
  intro d
  induction d with
  | zero =>
    intro e u hd hu hI
    obtain ⟨hn1, hn2⟩ := id hn
    refine pg_br 3 (L := []) (P := pg_inR u ∧ pg_inR n) (c := n ≤ u) (st1 := (47, [(0, .inr (.inr 0)), (1, .inl y), (2, .inl w), (3, .inl 1), (4, .inl 1), (5, .inl e), (6, .inl u)], [], rm g s n)) (st2 := (15, [(0, .inr (.inr 0)), (1, .inl y), (2, .inl w), (3, .inl 1), (4, .inl 1), (5, .inl e), (6, .inl u)], [], rm g s n)) rfl trivial ⟨⟨by omega, by omega⟩, ⟨by omega, by omega⟩⟩ (fun c_12_1 => ?_) (fun c_12_1 => ?_)
    · refine pg_re 1 (L := [e = 0 ∨ e = 1]) (r := some (.inl e)) (h0 := rm g s n) rfl (by (show _ ∨ _); omega) ?_
      refine ⟨?_, rfl⟩
      have exn : u.toNat = n.toNat := by omega
      rw [exn, mt_sv_x] at hI
      rcases hI with h1 | h1
      · rw [h1.1, pg_b_t h1.2]
      · rw [h1.1, pg_b_f h1.2]
    · exact (by exfalso; omega)
  | succ d ih =>
    intro e u hd hu hI
    obtain ⟨hn1, hn2⟩ := id hn
    have ek : (u + 1).toNat = u.toNat + 1 := by omega
    have eu : ((u.toNat : Nat) : Int) = u := by omega
    refine pg_br 3 (L := []) (P := pg_inR u ∧ pg_inR n) (c := n ≤ u) (st1 := (47, [(0, .inr (.inr 0)), (1, .inl y), (2, .inl w), (3, .inl 1), (4, .inl 1), (5, .inl e), (6, .inl u)], [], rm g s n)) (st2 := (15, [(0, .inr (.inr 0)), (1, .inl y), (2, .inl w), (3, .inl 1), (4, .inl 1), (5, .inl e), (6, .inl u)], [], rm g s n)) rfl trivial ⟨⟨by omega, by omega⟩, ⟨by omega, by omega⟩⟩ (fun c_12_2 => ?_) (fun c_12_2 => ?_)
    · exact (by exfalso; omega)
    · refine pg_br 1 (L := []) (P := pg_inR e) (c := ¬ e = 0) (st1 := (34, [(0, .inr (.inr 0)), (1, .inl y), (2, .inl w), (3, .inl 1), (4, .inl 1), (5, .inl e), (6, .inl u)], [], rm g s n)) (st2 := (20, [(0, .inr (.inr 0)), (1, .inl y), (2, .inl w), (3, .inl 1), (4, .inl 1), (5, .inl e), (6, .inl u)], [], rm g s n)) rfl trivial ⟨by omega, by omega⟩ (fun c_17_3 => ?_) (fun c_17_3 => ?_)
      · refine pg_go 5 (L := []) (st' := (6, [(0, .inr (.inr 0)), (1, .inl y), (2, .inl w), (3, .inl 1), (4, .inl 1), (5, .inl 1), (6, .inl (u + 1))], [], rm g s n)) rfl trivial ?_
        refine ih _ _ (by omega) (by omega) ?_
        rw [ek, mt_sv_s, eu]
        refine Or.inl ⟨rfl, ?_⟩
        rcases hI with h1 | h1
        · exact Or.inl h1.2
        · first | (exfalso; omega) | (right; rcases hbf with h2 | h2; (· exact h2.1); (· exfalso; omega))
      · refine pg_ca 6 (L := []) (Mc := pm_T_isStrip) (as := [.inr (.inr 0), .inl y, .inl w, .inl 1, .inl 1, .inl u]) (h0 := rm g s n) (pc := 31) (lv := [(0, .inr (.inr 0)), (1, .inl y), (2, .inl w), (3, .inl 1), (4, .inl 1), (5, .inl e), (6, .inl u)]) (rest := []) rfl trivial (re_is_11 (g := g) (s := s) hn hC y w u ⟨by omega, by omega⟩ ⟨by omega, by omega⟩ ⟨by omega, by omega⟩) ?_
        intro r_1 h_1 e_1; rw [e_1.1, e_1.2]; have hbf := pg_b_or (mt_st (g 1) n y w 1 1 u)
        refine pg_br 0 (L := []) (P := pg_inR (pg_b (mt_st (g 1) n y w 1 1 u))) (c := (pg_b (mt_st (g 1) n y w 1 1 u)) = 0) (st1 := (38, [(0, .inr (.inr 0)), (1, .inl y), (2, .inl w), (3, .inl 1), (4, .inl 1), (5, .inl e), (6, .inl u)], [], rm g s n)) (st2 := (34, [(0, .inr (.inr 0)), (1, .inl y), (2, .inl w), (3, .inl 1), (4, .inl 1), (5, .inl e), (6, .inl u)], [], rm g s n)) rfl trivial ⟨by omega, by omega⟩ (fun c_31_4 => ?_) (fun c_31_4 => ?_)
        · refine pg_go 4 (L := []) (st' := (6, [(0, .inr (.inr 0)), (1, .inl y), (2, .inl w), (3, .inl 1), (4, .inl 1), (5, .inl 0), (6, .inl (u + 1))], [], rm g s n)) rfl trivial ?_
          refine ih _ _ (by omega) (by omega) ?_
          rw [ek, mt_sv_s, eu]
          refine Or.inr ⟨rfl, ?_⟩
          rcases hI with h1 | h1
          · exfalso; omega
          · rintro (h2 | h2)
            · exact h1.2 h2
            · rcases hbf with h3 | h3
              · omega
              · exact h3.1 h2
        · refine pg_go 5 (L := []) (st' := (6, [(0, .inr (.inr 0)), (1, .inl y), (2, .inl w), (3, .inl 1), (4, .inl 1), (5, .inl 1), (6, .inl (u + 1))], [], rm g s n)) rfl trivial ?_
          refine ih _ _ (by omega) (by omega) ?_
          rw [ek, mt_sv_s, eu]
          refine Or.inl ⟨rfl, ?_⟩
          rcases hI with h1 | h1
          · exact Or.inl h1.2
          · first | (exfalso; omega) | (right; rcases hbf with h2 | h2; (· exact h2.1); (· exfalso; omega))
theorem re_hs_11 {g : pg_H} {s n : Int} (hn : 1 ≤ n ∧ n ≤ 12) (hC : ri_C g) (y w : Int) (hy : 0 ≤ y ∧ y < n) (hw : 1 ≤ w ∧ w ≤ n) : pg_Sem false pm_T_hasStrip [.inr (.inr 0), .inl y, .inl w, .inl 1, .inl 1] (rm g s n) (fun r h' => r = some (.inl (pg_b (mt_sx (g 1) n y w 1 1))) ∧ h' = rm g s n) := by
  obtain ⟨hn1, hn2⟩ := id hn
  refine pg_Sem_of pm_T_hasStrip_f rfl ?_
  refine pg_go 4 (L := []) (st' := (6, [(0, .inr (.inr 0)), (1, .inl y), (2, .inl w), (3, .inl 1), (4, .inl 1), (5, .inl 0), (6, .inl 0)], [], rm g s n)) rfl trivial ?_
  exact re_hs_l11 hn hC hy hw n.toNat 0 0 (by omega) (by omega) (Or.inr ⟨rfl, fun ⟨j, h, _⟩ => absurd h (by omega)⟩)
set_option maxRecDepth 20000 in
set_option maxHeartbeats 8000000 in
theorem re_strip {g : pg_H} {s n : Int} (hB : rm_B g s n) (hC : ri_C g) (y : Int) (hy : pg_inR y) (w : Int) (hw : pg_inR w) : pg_Sem false pm_T_strip [.inr (.inr 0), .inl y, .inl w] (rm g s n) (fun r h' => h' = rm g s n ∧ (¬ (s = 0 ∧ 1 ≤ w ∧ w ≤ n) → r = some (.inl (-2))) ∧ (s = 0 ∧ 1 ≤ w ∧ w ≤ n → r = some (.inl (mt_stk (mt_sx (g 1) n (y % n) w 1 0) (mt_sx (g 1) n (y % n) w 0 1) (mt_sx (g 1) n (y % n) w 1 1) (mt_st (g 1) n (y % n) w 1 0 0))))) := by
  obtain ⟨hs, hn, hT⟩ := id hB
  obtain ⟨hn1, hn2⟩ := id hn
  have hr := mt_rd_or hs
  obtain ⟨y1, y2⟩ := hy
  obtain ⟨w1, w2⟩ := hw
  have my := mt_mod hn1 y
  refine pg_Sem_of pm_T_strip_f rfl ?_
  refine pg_br 3 (L := []) (P := pg_inR s ∧ pg_inR 1) (c := s = 1) (st1 := (22, [(0, .inr (.inr 0)), (1, .inl y), (2, .inl w)], [], rm g s n)) (st2 := (8, [(0, .inr (.inr 0)), (1, .inl y), (2, .inl w)], [], rm g s n)) rfl trivial ⟨⟨by omega, by omega⟩, ⟨by decide, by decide⟩⟩ (fun c_5_1 => ?_) (fun c_5_1 => ?_)
  · refine pg_re 1 (L := []) (r := some (.inl (-2))) (h0 := rm g s n) rfl trivial ?_
    exact ⟨rfl, fun _ => rfl, fun hz => absurd hz (by omega)⟩
  · refine pg_ca 6 (L := [pg_inR w, pg_inR n]) (Mc := pm_T_isIn) (as := [.inr (.inl w), .inr (.inl 1), .inr (.inl n)]) (h0 := rm g s n) (pc := 19) (lv := [(0, .inr (.inr 0)), (1, .inl y), (2, .inl w)]) (rest := []) rfl ⟨⟨by omega, by omega⟩, ⟨by omega, by omega⟩⟩ (re_isIn (rm g s n) w 1 n ⟨by omega, by omega⟩ ⟨by omega, by omega⟩ ⟨by omega, by omega⟩) ?_
    intro r_1 h_1 e_1; rw [e_1.1, e_1.2]
    have hin_16 : ((if 1 ≤ w ∧ w ≤ n then (1 : Int) else 0) = 1 ∧ (1 ≤ w ∧ w ≤ n)) ∨ ((if 1 ≤ w ∧ w ≤ n then (1 : Int) else 0) = 0 ∧ ¬ (1 ≤ w ∧ w ≤ n)) := by split <;> simp_all
    refine pg_br 0 (L := []) (P := pg_inR (if 1 ≤ w ∧ w ≤ n then 1 else 0)) (c := ¬ (if 1 ≤ w ∧ w ≤ n then 1 else 0) = 0) (st1 := (25, [(0, .inr (.inr 0)), (1, .inl y), (2, .inl w)], [], rm g s n)) (st2 := (22, [(0, .inr (.inr 0)), (1, .inl y), (2, .inl w)], [], rm g s n)) rfl trivial ⟨by omega, by omega⟩ (fun c_19_2 => ?_) (fun c_19_2 => ?_)
    · refine pg_ca 4 (L := [pg_inR y]) (Mc := pm_T_mod) (as := [.inr (.inl y), .inl n]) (h0 := rm g s n) (pc := 34) (lv := [(0, .inr (.inr 0)), (1, .inl y), (2, .inl w)]) (rest := []) rfl ⟨by omega, by omega⟩ (re_mod (rm g s n) y n ⟨by omega, by omega⟩ ⟨by omega, by omega⟩) ?_
      intro r_1 h_1 e_1; rw [e_1.1, e_1.2]
      have hm_31 := mt_mod (n := n) (by omega) y
      refine pg_ca 6 (L := []) (Mc := pm_T_hasStrip) (as := [.inr (.inr 0), .inl (y % n), .inl w, .inl 1, .inl 0]) (h0 := rm g s n) (pc := 43) (lv := [(0, .inr (.inr 0)), (1, .inl y), (2, .inl w), (3, .inl (y % n))]) (rest := []) rfl trivial (re_hs_10 (g := g) (s := s) hn hC (y % n) w ⟨by omega, by omega⟩ ⟨by omega, by omega⟩) ?_
      intro r_1 h_1 e_1; rw [e_1.1, e_1.2]; have bg := pg_b_or (mt_sx (g 1) n (y % n) w 1 0)
      refine pg_ca 6 (L := []) (Mc := pm_T_hasStrip) (as := [.inr (.inr 0), .inl (y % n), .inl w, .inl 0, .inl 1]) (h0 := rm g s n) (pc := 53) (lv := [(0, .inr (.inr 0)), (1, .inl y), (2, .inl w), (3, .inl (y % n)), (4, .inl (pg_b (mt_sx (g 1) n (y % n) w 1 0)))]) (rest := []) rfl trivial (re_hs_01 (g := g) (s := s) hn hC (y % n) w ⟨by omega, by omega⟩ ⟨by omega, by omega⟩) ?_
      intro r_1 h_1 e_1; rw [e_1.1, e_1.2]; have bu := pg_b_or (mt_sx (g 1) n (y % n) w 0 1)
      refine pg_ca 6 (L := []) (Mc := pm_T_hasStrip) (as := [.inr (.inr 0), .inl (y % n), .inl w, .inl 1, .inl 1]) (h0 := rm g s n) (pc := 63) (lv := [(0, .inr (.inr 0)), (1, .inl y), (2, .inl w), (3, .inl (y % n)), (4, .inl (pg_b (mt_sx (g 1) n (y % n) w 1 0))), (5, .inl (pg_b (mt_sx (g 1) n (y % n) w 0 1)))]) (rest := []) rfl trivial (re_hs_11 (g := g) (s := s) hn hC (y % n) w ⟨by omega, by omega⟩ ⟨by omega, by omega⟩) ?_
      intro r_1 h_1 e_1; rw [e_1.1, e_1.2]; have bt := pg_b_or (mt_sx (g 1) n (y % n) w 1 1)
      refine pg_ca 7 (L := []) (Mc := pm_T_isStrip) (as := [.inr (.inr 0), .inl (y % n), .inl w, .inl 1, .inl 0, .inl 0]) (h0 := rm g s n) (pc := 74) (lv := [(0, .inr (.inr 0)), (1, .inl y), (2, .inl w), (3, .inl (y % n)), (4, .inl (pg_b (mt_sx (g 1) n (y % n) w 1 0))), (5, .inl (pg_b (mt_sx (g 1) n (y % n) w 0 1))), (6, .inl (pg_b (mt_sx (g 1) n (y % n) w 1 1)))]) (rest := []) rfl trivial (re_is_10 (g := g) (s := s) hn hC (y % n) w 0 ⟨by omega, by omega⟩ ⟨by omega, by omega⟩ ⟨by omega, by omega⟩) ?_
      intro r_1 h_1 e_1; rw [e_1.1, e_1.2]; have hbf := pg_b_or (mt_st (g 1) n (y % n) w 1 0 0)
      refine pg_br 2 (L := []) (P := pg_inR (pg_b (mt_sx (g 1) n (y % n) w 1 0))) (c := (pg_b (mt_sx (g 1) n (y % n) w 1 0)) = 0) (st1 := (98, [(0, .inr (.inr 0)), (1, .inl y), (2, .inl w), (3, .inl (y % n)), (4, .inl (pg_b (mt_sx (g 1) n (y % n) w 1 0))), (5, .inl (pg_b (mt_sx (g 1) n (y % n) w 0 1))), (6, .inl (pg_b (mt_sx (g 1) n (y % n) w 1 1))), (7, .inl (pg_b (mt_st (g 1) n (y % n) w 1 0 0)))], [], rm g s n)) (st2 := (81, [(0, .inr (.inr 0)), (1, .inl y), (2, .inl w), (3, .inl (y % n)), (4, .inl (pg_b (mt_sx (g 1) n (y % n) w 1 0))), (5, .inl (pg_b (mt_sx (g 1) n (y % n) w 0 1))), (6, .inl (pg_b (mt_sx (g 1) n (y % n) w 1 1))), (7, .inl (pg_b (mt_st (g 1) n (y % n) w 1 0 0)))], [], rm g s n)) rfl trivial ⟨by omega, by omega⟩ (fun c_78_3 => ?_) (fun c_78_3 => ?_)
      · refine pg_br 1 (L := []) (P := pg_inR (pg_b (mt_sx (g 1) n (y % n) w 1 0))) (c := (pg_b (mt_sx (g 1) n (y % n) w 1 0)) = 0) (st1 := (117, [(0, .inr (.inr 0)), (1, .inl y), (2, .inl w), (3, .inl (y % n)), (4, .inl (pg_b (mt_sx (g 1) n (y % n) w 1 0))), (5, .inl (pg_b (mt_sx (g 1) n (y % n) w 0 1))), (6, .inl (pg_b (mt_sx (g 1) n (y % n) w 1 1))), (7, .inl (pg_b (mt_st (g 1) n (y % n) w 1 0 0)))], [], rm g s n)) (st2 := (103, [(0, .inr (.inr 0)), (1, .inl y), (2, .inl w), (3, .inl (y % n)), (4, .inl (pg_b (mt_sx (g 1) n (y % n) w 1 0))), (5, .inl (pg_b (mt_sx (g 1) n (y % n) w 0 1))), (6, .inl (pg_b (mt_sx (g 1) n (y % n) w 1 1))), (7, .inl (pg_b (mt_st (g 1) n (y % n) w 1 0 0)))], [], rm g s n)) rfl trivial ⟨by omega, by omega⟩ (fun c_100_4 => ?_) (fun c_100_4 => ?_)
        · refine pg_br 1 (L := []) (P := pg_inR (pg_b (mt_sx (g 1) n (y % n) w 0 1))) (c := (pg_b (mt_sx (g 1) n (y % n) w 0 1)) = 0) (st1 := (126, [(0, .inr (.inr 0)), (1, .inl y), (2, .inl w), (3, .inl (y % n)), (4, .inl (pg_b (mt_sx (g 1) n (y % n) w 1 0))), (5, .inl (pg_b (mt_sx (g 1) n (y % n) w 0 1))), (6, .inl (pg_b (mt_sx (g 1) n (y % n) w 1 1))), (7, .inl (pg_b (mt_st (g 1) n (y % n) w 1 0 0)))], [], rm g s n)) (st2 := (122, [(0, .inr (.inr 0)), (1, .inl y), (2, .inl w), (3, .inl (y % n)), (4, .inl (pg_b (mt_sx (g 1) n (y % n) w 1 0))), (5, .inl (pg_b (mt_sx (g 1) n (y % n) w 0 1))), (6, .inl (pg_b (mt_sx (g 1) n (y % n) w 1 1))), (7, .inl (pg_b (mt_st (g 1) n (y % n) w 1 0 0)))], [], rm g s n)) rfl trivial ⟨by omega, by omega⟩ (fun c_119_5 => ?_) (fun c_119_5 => ?_)
          · refine pg_br 1 (L := []) (P := pg_inR (pg_b (mt_sx (g 1) n (y % n) w 1 1))) (c := (pg_b (mt_sx (g 1) n (y % n) w 1 1)) = 0) (st1 := (135, [(0, .inr (.inr 0)), (1, .inl y), (2, .inl w), (3, .inl (y % n)), (4, .inl (pg_b (mt_sx (g 1) n (y % n) w 1 0))), (5, .inl (pg_b (mt_sx (g 1) n (y % n) w 0 1))), (6, .inl (pg_b (mt_sx (g 1) n (y % n) w 1 1))), (7, .inl (pg_b (mt_st (g 1) n (y % n) w 1 0 0)))], [], rm g s n)) (st2 := (131, [(0, .inr (.inr 0)), (1, .inl y), (2, .inl w), (3, .inl (y % n)), (4, .inl (pg_b (mt_sx (g 1) n (y % n) w 1 0))), (5, .inl (pg_b (mt_sx (g 1) n (y % n) w 0 1))), (6, .inl (pg_b (mt_sx (g 1) n (y % n) w 1 1))), (7, .inl (pg_b (mt_st (g 1) n (y % n) w 1 0 0)))], [], rm g s n)) rfl trivial ⟨by omega, by omega⟩ (fun c_128_6 => ?_) (fun c_128_6 => ?_)
            · refine pg_re 1 (L := []) (r := some (.inl 1)) (h0 := rm g s n) rfl trivial ?_
              refine ⟨rfl, fun hz => absurd (show s = 0 ∧ 1 ≤ w ∧ w ≤ n by omega) hz, fun _ => ?_⟩
              unfold mt_stk
              all_goals (rcases bg with ⟨y_, y__⟩ | ⟨y_, y__⟩ <;> first | (exfalso; omega) | skip)
              all_goals rw [pg_if_f y_]
              all_goals (rcases bu with ⟨y_, y__⟩ | ⟨y_, y__⟩ <;> first | (exfalso; omega) | skip)
              all_goals rw [pg_if_f y_]
              all_goals (rcases bt with ⟨y_, y__⟩ | ⟨y_, y__⟩ <;> first | (exfalso; omega) | skip)
              all_goals rw [pg_if_f y_]
            · refine pg_re 2 (L := []) (r := some (.inl 4)) (h0 := rm g s n) rfl trivial ?_
              refine ⟨rfl, fun hz => absurd (show s = 0 ∧ 1 ≤ w ∧ w ≤ n by omega) hz, fun _ => ?_⟩
              unfold mt_stk
              all_goals (rcases bg with ⟨y_, y__⟩ | ⟨y_, y__⟩ <;> first | (exfalso; omega) | skip)
              all_goals rw [pg_if_f y_]
              all_goals (rcases bu with ⟨y_, y__⟩ | ⟨y_, y__⟩ <;> first | (exfalso; omega) | skip)
              all_goals rw [pg_if_f y_]
              all_goals (rcases bt with ⟨y_, y__⟩ | ⟨y_, y__⟩ <;> first | (exfalso; omega) | skip)
              all_goals rw [pg_if_t y_]
          · refine pg_re 2 (L := []) (r := some (.inl 3)) (h0 := rm g s n) rfl trivial ?_
            refine ⟨rfl, fun hz => absurd (show s = 0 ∧ 1 ≤ w ∧ w ≤ n by omega) hz, fun _ => ?_⟩
            unfold mt_stk
            all_goals (rcases bg with ⟨y_, y__⟩ | ⟨y_, y__⟩ <;> first | (exfalso; omega) | skip)
            all_goals rw [pg_if_f y_]
            all_goals (rcases bu with ⟨y_, y__⟩ | ⟨y_, y__⟩ <;> first | (exfalso; omega) | skip)
            all_goals rw [pg_if_t y_]
        · refine pg_br 1 (L := []) (P := pg_inR (pg_b (mt_st (g 1) n (y % n) w 1 0 0))) (c := (pg_b (mt_st (g 1) n (y % n) w 1 0 0)) = 0) (st1 := (113, [(0, .inr (.inr 0)), (1, .inl y), (2, .inl w), (3, .inl (y % n)), (4, .inl (pg_b (mt_sx (g 1) n (y % n) w 1 0))), (5, .inl (pg_b (mt_sx (g 1) n (y % n) w 0 1))), (6, .inl (pg_b (mt_sx (g 1) n (y % n) w 1 1))), (7, .inl (pg_b (mt_st (g 1) n (y % n) w 1 0 0)))], [], rm g s n)) (st2 := (108, [(0, .inr (.inr 0)), (1, .inl y), (2, .inl w), (3, .inl (y % n)), (4, .inl (pg_b (mt_sx (g 1) n (y % n) w 1 0))), (5, .inl (pg_b (mt_sx (g 1) n (y % n) w 0 1))), (6, .inl (pg_b (mt_sx (g 1) n (y % n) w 1 1))), (7, .inl (pg_b (mt_st (g 1) n (y % n) w 1 0 0)))], [], rm g s n)) rfl trivial ⟨by omega, by omega⟩ (fun c_105_7 => ?_) (fun c_105_7 => ?_)
          · refine pg_re 2 (L := []) (r := some (.inl 2)) (h0 := rm g s n) rfl trivial ?_
            refine ⟨rfl, fun hz => absurd (show s = 0 ∧ 1 ≤ w ∧ w ≤ n by omega) hz, fun _ => ?_⟩
            unfold mt_stk
            all_goals (rcases bg with ⟨y_, y__⟩ | ⟨y_, y__⟩ <;> first | (exfalso; omega) | skip)
            all_goals rw [pg_if_t y_]
            all_goals (rcases bu with ⟨y_, y__⟩ | ⟨y_, y__⟩ <;> first | (exfalso; omega) | skip)
            all_goals rw [pg_if_f y_]
            all_goals (rcases hbf with ⟨y_, y__⟩ | ⟨y_, y__⟩ <;> first | (exfalso; omega) | skip)
            all_goals rw [pg_if_f y_]
          · refine pg_re 2 (L := []) (r := some (.inl 6)) (h0 := rm g s n) rfl trivial ?_
            refine ⟨rfl, fun hz => absurd (show s = 0 ∧ 1 ≤ w ∧ w ≤ n by omega) hz, fun _ => ?_⟩
            unfold mt_stk
            all_goals (rcases bg with ⟨y_, y__⟩ | ⟨y_, y__⟩ <;> first | (exfalso; omega) | skip)
            all_goals rw [pg_if_t y_]
            all_goals (rcases bu with ⟨y_, y__⟩ | ⟨y_, y__⟩ <;> first | (exfalso; omega) | skip)
            all_goals rw [pg_if_f y_]
            all_goals (rcases hbf with ⟨y_, y__⟩ | ⟨y_, y__⟩ <;> first | (exfalso; omega) | skip)
            all_goals rw [pg_if_t y_]
      · refine pg_br 1 (L := []) (P := pg_inR (pg_b (mt_sx (g 1) n (y % n) w 0 1))) (c := (pg_b (mt_sx (g 1) n (y % n) w 0 1)) = 0) (st1 := (98, [(0, .inr (.inr 0)), (1, .inl y), (2, .inl w), (3, .inl (y % n)), (4, .inl (pg_b (mt_sx (g 1) n (y % n) w 1 0))), (5, .inl (pg_b (mt_sx (g 1) n (y % n) w 0 1))), (6, .inl (pg_b (mt_sx (g 1) n (y % n) w 1 1))), (7, .inl (pg_b (mt_st (g 1) n (y % n) w 1 0 0)))], [], rm g s n)) (st2 := (86, [(0, .inr (.inr 0)), (1, .inl y), (2, .inl w), (3, .inl (y % n)), (4, .inl (pg_b (mt_sx (g 1) n (y % n) w 1 0))), (5, .inl (pg_b (mt_sx (g 1) n (y % n) w 0 1))), (6, .inl (pg_b (mt_sx (g 1) n (y % n) w 1 1))), (7, .inl (pg_b (mt_st (g 1) n (y % n) w 1 0 0)))], [], rm g s n)) rfl trivial ⟨by omega, by omega⟩ (fun c_83_8 => ?_) (fun c_83_8 => ?_)
        · refine pg_br 1 (L := []) (P := pg_inR (pg_b (mt_sx (g 1) n (y % n) w 1 0))) (c := (pg_b (mt_sx (g 1) n (y % n) w 1 0)) = 0) (st1 := (117, [(0, .inr (.inr 0)), (1, .inl y), (2, .inl w), (3, .inl (y % n)), (4, .inl (pg_b (mt_sx (g 1) n (y % n) w 1 0))), (5, .inl (pg_b (mt_sx (g 1) n (y % n) w 0 1))), (6, .inl (pg_b (mt_sx (g 1) n (y % n) w 1 1))), (7, .inl (pg_b (mt_st (g 1) n (y % n) w 1 0 0)))], [], rm g s n)) (st2 := (103, [(0, .inr (.inr 0)), (1, .inl y), (2, .inl w), (3, .inl (y % n)), (4, .inl (pg_b (mt_sx (g 1) n (y % n) w 1 0))), (5, .inl (pg_b (mt_sx (g 1) n (y % n) w 0 1))), (6, .inl (pg_b (mt_sx (g 1) n (y % n) w 1 1))), (7, .inl (pg_b (mt_st (g 1) n (y % n) w 1 0 0)))], [], rm g s n)) rfl trivial ⟨by omega, by omega⟩ (fun c_100_9 => ?_) (fun c_100_9 => ?_)
          · refine pg_br 1 (L := []) (P := pg_inR (pg_b (mt_sx (g 1) n (y % n) w 0 1))) (c := (pg_b (mt_sx (g 1) n (y % n) w 0 1)) = 0) (st1 := (126, [(0, .inr (.inr 0)), (1, .inl y), (2, .inl w), (3, .inl (y % n)), (4, .inl (pg_b (mt_sx (g 1) n (y % n) w 1 0))), (5, .inl (pg_b (mt_sx (g 1) n (y % n) w 0 1))), (6, .inl (pg_b (mt_sx (g 1) n (y % n) w 1 1))), (7, .inl (pg_b (mt_st (g 1) n (y % n) w 1 0 0)))], [], rm g s n)) (st2 := (122, [(0, .inr (.inr 0)), (1, .inl y), (2, .inl w), (3, .inl (y % n)), (4, .inl (pg_b (mt_sx (g 1) n (y % n) w 1 0))), (5, .inl (pg_b (mt_sx (g 1) n (y % n) w 0 1))), (6, .inl (pg_b (mt_sx (g 1) n (y % n) w 1 1))), (7, .inl (pg_b (mt_st (g 1) n (y % n) w 1 0 0)))], [], rm g s n)) rfl trivial ⟨by omega, by omega⟩ (fun c_119_10 => ?_) (fun c_119_10 => ?_)
            · refine pg_br 1 (L := []) (P := pg_inR (pg_b (mt_sx (g 1) n (y % n) w 1 1))) (c := (pg_b (mt_sx (g 1) n (y % n) w 1 1)) = 0) (st1 := (135, [(0, .inr (.inr 0)), (1, .inl y), (2, .inl w), (3, .inl (y % n)), (4, .inl (pg_b (mt_sx (g 1) n (y % n) w 1 0))), (5, .inl (pg_b (mt_sx (g 1) n (y % n) w 0 1))), (6, .inl (pg_b (mt_sx (g 1) n (y % n) w 1 1))), (7, .inl (pg_b (mt_st (g 1) n (y % n) w 1 0 0)))], [], rm g s n)) (st2 := (131, [(0, .inr (.inr 0)), (1, .inl y), (2, .inl w), (3, .inl (y % n)), (4, .inl (pg_b (mt_sx (g 1) n (y % n) w 1 0))), (5, .inl (pg_b (mt_sx (g 1) n (y % n) w 0 1))), (6, .inl (pg_b (mt_sx (g 1) n (y % n) w 1 1))), (7, .inl (pg_b (mt_st (g 1) n (y % n) w 1 0 0)))], [], rm g s n)) rfl trivial ⟨by omega, by omega⟩ (fun c_128_11 => ?_) (fun c_128_11 => ?_)
              · refine pg_re 1 (L := []) (r := some (.inl 1)) (h0 := rm g s n) rfl trivial ?_
                refine ⟨rfl, fun hz => absurd (show s = 0 ∧ 1 ≤ w ∧ w ≤ n by omega) hz, fun _ => ?_⟩
                unfold mt_stk
                all_goals (rcases bg with ⟨y_, y__⟩ | ⟨y_, y__⟩ <;> first | (exfalso; omega) | skip)
                all_goals rw [pg_if_f y_]
                all_goals (rcases bu with ⟨y_, y__⟩ | ⟨y_, y__⟩ <;> first | (exfalso; omega) | skip)
                all_goals rw [pg_if_f y_]
                all_goals (rcases bt with ⟨y_, y__⟩ | ⟨y_, y__⟩ <;> first | (exfalso; omega) | skip)
                all_goals rw [pg_if_f y_]
              · refine pg_re 2 (L := []) (r := some (.inl 4)) (h0 := rm g s n) rfl trivial ?_
                refine ⟨rfl, fun hz => absurd (show s = 0 ∧ 1 ≤ w ∧ w ≤ n by omega) hz, fun _ => ?_⟩
                unfold mt_stk
                all_goals (rcases bg with ⟨y_, y__⟩ | ⟨y_, y__⟩ <;> first | (exfalso; omega) | skip)
                all_goals rw [pg_if_f y_]
                all_goals (rcases bu with ⟨y_, y__⟩ | ⟨y_, y__⟩ <;> first | (exfalso; omega) | skip)
                all_goals rw [pg_if_f y_]
                all_goals (rcases bt with ⟨y_, y__⟩ | ⟨y_, y__⟩ <;> first | (exfalso; omega) | skip)
                all_goals rw [pg_if_t y_]
            · refine pg_re 2 (L := []) (r := some (.inl 3)) (h0 := rm g s n) rfl trivial ?_
              refine ⟨rfl, fun hz => absurd (show s = 0 ∧ 1 ≤ w ∧ w ≤ n by omega) hz, fun _ => ?_⟩
              unfold mt_stk
              all_goals (rcases bg with ⟨y_, y__⟩ | ⟨y_, y__⟩ <;> first | (exfalso; omega) | skip)
              all_goals rw [pg_if_f y_]
              all_goals (rcases bu with ⟨y_, y__⟩ | ⟨y_, y__⟩ <;> first | (exfalso; omega) | skip)
              all_goals rw [pg_if_t y_]
          · refine pg_br 1 (L := []) (P := pg_inR (pg_b (mt_st (g 1) n (y % n) w 1 0 0))) (c := (pg_b (mt_st (g 1) n (y % n) w 1 0 0)) = 0) (st1 := (113, [(0, .inr (.inr 0)), (1, .inl y), (2, .inl w), (3, .inl (y % n)), (4, .inl (pg_b (mt_sx (g 1) n (y % n) w 1 0))), (5, .inl (pg_b (mt_sx (g 1) n (y % n) w 0 1))), (6, .inl (pg_b (mt_sx (g 1) n (y % n) w 1 1))), (7, .inl (pg_b (mt_st (g 1) n (y % n) w 1 0 0)))], [], rm g s n)) (st2 := (108, [(0, .inr (.inr 0)), (1, .inl y), (2, .inl w), (3, .inl (y % n)), (4, .inl (pg_b (mt_sx (g 1) n (y % n) w 1 0))), (5, .inl (pg_b (mt_sx (g 1) n (y % n) w 0 1))), (6, .inl (pg_b (mt_sx (g 1) n (y % n) w 1 1))), (7, .inl (pg_b (mt_st (g 1) n (y % n) w 1 0 0)))], [], rm g s n)) rfl trivial ⟨by omega, by omega⟩ (fun c_105_12 => ?_) (fun c_105_12 => ?_)
            · refine pg_re 2 (L := []) (r := some (.inl 2)) (h0 := rm g s n) rfl trivial ?_
              refine ⟨rfl, fun hz => absurd (show s = 0 ∧ 1 ≤ w ∧ w ≤ n by omega) hz, fun _ => ?_⟩
              unfold mt_stk
              all_goals (rcases bg with ⟨y_, y__⟩ | ⟨y_, y__⟩ <;> first | (exfalso; omega) | skip)
              all_goals rw [pg_if_t y_]
              all_goals (rcases bu with ⟨y_, y__⟩ | ⟨y_, y__⟩ <;> first | (exfalso; omega) | skip)
              all_goals rw [pg_if_f y_]
              all_goals (rcases hbf with ⟨y_, y__⟩ | ⟨y_, y__⟩ <;> first | (exfalso; omega) | skip)
              all_goals rw [pg_if_f y_]
            · refine pg_re 2 (L := []) (r := some (.inl 6)) (h0 := rm g s n) rfl trivial ?_
              refine ⟨rfl, fun hz => absurd (show s = 0 ∧ 1 ≤ w ∧ w ≤ n by omega) hz, fun _ => ?_⟩
              unfold mt_stk
              all_goals (rcases bg with ⟨y_, y__⟩ | ⟨y_, y__⟩ <;> first | (exfalso; omega) | skip)
              all_goals rw [pg_if_t y_]
              all_goals (rcases bu with ⟨y_, y__⟩ | ⟨y_, y__⟩ <;> first | (exfalso; omega) | skip)
              all_goals rw [pg_if_f y_]
              all_goals (rcases hbf with ⟨y_, y__⟩ | ⟨y_, y__⟩ <;> first | (exfalso; omega) | skip)
              all_goals rw [pg_if_t y_]
        · refine pg_br 1 (L := []) (P := pg_inR (pg_b (mt_st (g 1) n (y % n) w 1 0 0))) (c := (pg_b (mt_st (g 1) n (y % n) w 1 0 0)) = 0) (st1 := (96, [(0, .inr (.inr 0)), (1, .inl y), (2, .inl w), (3, .inl (y % n)), (4, .inl (pg_b (mt_sx (g 1) n (y % n) w 1 0))), (5, .inl (pg_b (mt_sx (g 1) n (y % n) w 0 1))), (6, .inl (pg_b (mt_sx (g 1) n (y % n) w 1 1))), (7, .inl (pg_b (mt_st (g 1) n (y % n) w 1 0 0)))], [], rm g s n)) (st2 := (91, [(0, .inr (.inr 0)), (1, .inl y), (2, .inl w), (3, .inl (y % n)), (4, .inl (pg_b (mt_sx (g 1) n (y % n) w 1 0))), (5, .inl (pg_b (mt_sx (g 1) n (y % n) w 0 1))), (6, .inl (pg_b (mt_sx (g 1) n (y % n) w 1 1))), (7, .inl (pg_b (mt_st (g 1) n (y % n) w 1 0 0)))], [], rm g s n)) rfl trivial ⟨by omega, by omega⟩ (fun c_88_13 => ?_) (fun c_88_13 => ?_)
          · refine pg_re 1 (L := []) (r := some (.inl 5)) (h0 := rm g s n) rfl trivial ?_
            refine ⟨rfl, fun hz => absurd (show s = 0 ∧ 1 ≤ w ∧ w ≤ n by omega) hz, fun _ => ?_⟩
            unfold mt_stk
            all_goals (rcases bg with ⟨y_, y__⟩ | ⟨y_, y__⟩ <;> first | (exfalso; omega) | skip)
            all_goals rw [pg_if_t y_]
            all_goals (rcases bu with ⟨y_, y__⟩ | ⟨y_, y__⟩ <;> first | (exfalso; omega) | skip)
            all_goals rw [pg_if_t y_]
            all_goals (rcases hbf with ⟨y_, y__⟩ | ⟨y_, y__⟩ <;> first | (exfalso; omega) | skip)
            all_goals rw [pg_if_f y_]
          · refine pg_re 2 (L := []) (r := some (.inl 7)) (h0 := rm g s n) rfl trivial ?_
            refine ⟨rfl, fun hz => absurd (show s = 0 ∧ 1 ≤ w ∧ w ≤ n by omega) hz, fun _ => ?_⟩
            unfold mt_stk
            all_goals (rcases bg with ⟨y_, y__⟩ | ⟨y_, y__⟩ <;> first | (exfalso; omega) | skip)
            all_goals rw [pg_if_t y_]
            all_goals (rcases bu with ⟨y_, y__⟩ | ⟨y_, y__⟩ <;> first | (exfalso; omega) | skip)
            all_goals rw [pg_if_t y_]
            all_goals (rcases hbf with ⟨y_, y__⟩ | ⟨y_, y__⟩ <;> first | (exfalso; omega) | skip)
            all_goals rw [pg_if_t y_]
    · refine pg_re 1 (L := []) (r := some (.inl (-2))) (h0 := rm g s n) rfl trivial ?_
      exact ⟨rfl, fun _ => rfl, fun hz => absurd hz (by omega)⟩
