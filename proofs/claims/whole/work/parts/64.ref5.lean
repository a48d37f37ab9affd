/-! the reference: begin, paint, paints, generate; least, orbit, ways -/
theorem pa_run_n (n x y D : Int) (c0 : Nat → Int) (j : Nat) : pa_run n (x % n) y D c0 j = pa_run n x y D c0 j := by
  induction j with
  | zero => rfl
  | succ j ih =>
    simp only [pa_run]
    rw [ih, Int.emod_add_emod]
def ri_G (g : pg_H) (s n : Int) : Prop := (0 ≤ g 0 3 ∧ g 0 3 ≤ 6) ∧ ∀ j : Nat, (j : Int) < g 0 3 → (0 ≤ g 2 (3 * j) ∧ g 2 (3 * j) < 2 * mt_rd s) ∧ (0 ≤ g 2 (3 * j + 1) ∧ g 2 (3 * j + 1) < n) ∧ (0 ≤ g 2 (3 * j + 2) ∧ g 2 (3 * j + 2) < n)
theorem ri_G_fr {cs fs : List Nat} {g g' : pg_H} {s n : Int} (hS : ri_G g s n) (hf : rf cs fs g g') (h : 2 ∉ cs ∧ 3 ∉ fs) : ri_G g' s n := by
  unfold ri_G
  rw [hf.1 2 (by decide) h.1, hf.2 3 h.2]
  exact hS
/-- the least of f where P is -/
noncomputable def ri_mn (P : Nat → Prop) (f : Nat → Int) : Nat → Int
  | 0 => 144
  | m + 1 => pg_if (P m ∧ f m < ri_mn P f m) (f m) (ri_mn P f m)
theorem ri_mn_le (P : Nat → Prop) (f : Nat → Int) (N : Nat) : ri_mn P f N ≤ 144 ∧ (∀ m, m < N → P m → ri_mn P f N ≤ f m) ∧ (ri_mn P f N = 144 ∨ ∃ m, m < N ∧ P m ∧ ri_mn P f N = f m) := by
  induction N with
  | zero => exact ⟨Int.le_refl _, fun m hm => absurd hm (by omega), Or.inl rfl⟩
  | succ N ih =>
    simp only [ri_mn]
    obtain ⟨h1, h2, h3⟩ := ih
    rcases Classical.em (P N ∧ f N < ri_mn P f N) with hc | hc
    · rw [pg_if_t hc]
      refine ⟨by omega, fun m hm hP => ?_, Or.inr ⟨N, by omega, hc.1, rfl⟩⟩
      rcases (show m < N ∨ m = N by omega) with h | rfl
      · have := h2 m h hP
        omega
      · exact Int.le_refl _
    · rw [pg_if_f hc]
      refine ⟨h1, fun m hm hP => ?_, ?_⟩
      · rcases (show m < N ∨ m = N by omega) with h | rfl
        · exact h2 m h hP
        · by_cases h4 : f m < ri_mn P f m
          · exact absurd ⟨hP, h4⟩ hc
          · omega
      · rcases h3 with h | ⟨m, a, b, c⟩
        · exact Or.inl h
        · exact Or.inr ⟨m, by omega, b, c⟩
theorem ri_mn_u {P : Nat → Prop} {f : Nat → Int} {N : Nat} {z : Int} (h1 : z = 144 ∨ ∃ m, m < N ∧ P m ∧ z = f m) (h0 : z ≤ 144) (h2 : ∀ m, m < N → P m → z ≤ f m) : z = ri_mn P f N := by
  obtain ⟨a, b, c⟩ := ri_mn_le P f N
  have hle : ri_mn P f N ≤ z := by
    rcases h1 with h | ⟨m, q1, q2, q3⟩
    · omega
    · rw [q3]; exact b m q1 q2
  have hge : z ≤ ri_mn P f N := by
    rcases c with h | ⟨m, q1, q2, q3⟩
    · omega
    · rw [q3]; exact h2 m q1 q2
  omega
/-- where move number m takes a point -/
def mt_tm (s n x y : Int) (m : Nat) : Int := mt_tg s n ((m : Int) / (n * n)) ((m : Int) / n % n) ((m : Int) % n) x y
/-- the least point that a symmetry takes the point to -/
noncomputable def mt_lo (col : Nat → Int) (s n x y : Int) : Int := ri_mn (mt_sm col s n) (mt_tm s n x y) (2 * mt_rd s * (n * n)).toNat
def ri_Lw (P : Nat → Prop) (f : Nat → Int) (N : Nat) (b i : Int) : Prop := (b = 144 ∨ ∃ m, m < N ∧ P m ∧ b = f m) ∧ ∀ m, m < N → P m → pg_cn P m < i → b ≤ f m
theorem ri_Lw_s {P : Nat → Prop} {f : Nat → Int} {N m : Nat} {b i : Int} (hL : ri_Lw P f N b i) (hm : m < N) (hP : P m) (hi : pg_cn P m = i) : ri_Lw P f N (if f m < b then f m else b) (i + 1) := by
  have hu : ∀ j, j < N → P j → pg_cn P j = i → j = m := by
    intro j h1 h2 h3
    rcases Nat.lt_trichotomy j m with h | h | h
    · have := pg_cn_lt2 h h2
      omega
    · exact h
    · have := pg_cn_lt2 h hP
      omega
  refine ⟨?_, fun j hj hPj hc => ?_⟩
  · split
    · exact Or.inr ⟨m, hm, hP, rfl⟩
    · exact hL.1
  · rcases (show pg_cn P j < i ∨ pg_cn P j = i by omega) with h | h
    · have := hL.2 j hj hPj h
      split <;> omega
    · rw [hu j hj hPj h]
      split <;> omega
/-- a way of colours, in one number -/
def ri_wc (im : Nat → Int) : Nat → Int
  | 0 => 0
  | c + 1 => 11 * ri_wc im c + im c + 1
theorem ri_wc_bd {im : Nat → Int} {c : Nat} (h : ∀ j, j < c → -1 ≤ im j ∧ im j ≤ 9) : 0 ≤ ri_wc im c ∧ ri_wc im c < 11 ^ c := by
  induction c with
  | zero => exact ⟨Int.le_refl _, by show (0 : Int) < 1; decide⟩
  | succ c ih =>
    have h1 := ih (fun j hj => h j (by omega))
    have h2 := h c (by omega)
    simp only [ri_wc]
    rw [Int.pow_succ]
    omega
/-- the ways of the changes among the first m moves -/
def ri_Wp (col : Nat → Int) (s n : Int) (m : Nat) (w : Int) : Prop := ∃ j : Nat, j < m ∧ mt_chg col s n ((j : Int) / (n * n)) ((j : Int) / n % n) ((j : Int) % n) ∧ ∃ im : Nat → Int, mt_img col s n ((j : Int) / (n * n)) ((j : Int) / n % n) ((j : Int) % n) im ∧ w = ri_wc im 10
def ri_WL (col : Nat → Int) (s n : Int) (m : Nat) (L : List Int) : Prop := L.Nodup ∧ ∀ w : Int, w ∈ L ↔ ri_Wp col s n m w
theorem mt_lo_bd (col : Nat → Int) (s n x y : Int) : mt_lo col s n x y ≤ 144 ∧ (1 ≤ n → 0 ≤ mt_lo col s n x y) := by
  refine ⟨(ri_mn_le _ _ _).1, fun hn => ?_⟩
  unfold mt_lo
  rcases (ri_mn_le (mt_sm col s n) (mt_tm s n x y) (2 * mt_rd s * (n * n)).toNat).2.2 with h | ⟨m, -, -, h⟩
  · omega
  · rw [h]
    unfold mt_tm mt_tg mt_pt
    have a := mt_mod hn (mt_x s ((m : Int) / (n * n)) x y + (m : Int) / n % n)
    have b := mt_mod hn (mt_y s ((m : Int) / (n * n)) x y + (m : Int) % n)
    have c := Int.mul_nonneg b.1 (show 0 ≤ n by omega)
    omega
theorem re_begin_l {g0 : pg_H} {s n a m : Int} (ham : (0 ≤ a ∧ a ≤ 1) ∧ 1 ≤ m ∧ m ≤ 12) : ∀ (d : Nat) (g : pg_H) (j : Int) (hd : j + (d : Int) = 144) (hj : 0 ≤ j) (hB : rm_B g a m) (h3 : g 0 3 = 0) (h1 : ∀ p : Nat, (p : Int) < j → g 1 p = 0), pg_Good false pm_T_begin (fun r h' => (¬ ((0 ≤ a ∧ a ≤ 1) ∧ 1 ≤ m ∧ m ≤ 12) ∧ r = some (.inl (-2)) ∧ h' = rm g0 s n) ∨ (((0 ≤ a ∧ a ≤ 1) ∧ 1 ≤ m ∧ m ≤ 12) ∧ r = some (.inl n) ∧ ∃ g', h' = rm g' a m ∧ rm_B g' a m ∧ (∀ p : Nat, p < 144 → g' 1 p = 0) ∧ g' 0 3 = 0 ∧ g' 0 7 = 0 ∧ g' 0 8 = 0)) (52, [(0, .inr (.inr 0)), (1, .inl a), (2, .inl m), (3, .inl n), (4, .inl j)], [], rm g a m) := by
  intro d
  induction d with
  | zero =>
    intro g j hd hj hB h3 h1
    refine pg_br 2 (L := []) (P := pg_inR j ∧ pg_inR 144) (c := 144 ≤ j) (st1 := (74, [(0, .inr (.inr 0)), (1, .inl a), (2, .inl m), (3, .inl n), (4, .inl j)], [], rm g a m)) (st2 := (60, [(0, .inr (.inr 0)), (1, .inl a), (2, .inl m), (3, .inl n), (4, .inl j)], [], rm g a m)) rfl trivial ⟨⟨by omega, by omega⟩, ⟨by decide, by decide⟩⟩ (fun c_57_1 => ?_) (fun c_57_1 => ?_)
    · refine pg_ca 1 (L := []) (Mc := pm_T_changed) (as := [.inr (.inr 0)]) (h0 := rm g a m) (pc := 78) (lv := [(0, .inr (.inr 0)), (1, .inl a), (2, .inl m), (3, .inl n), (4, .inl j)]) (rest := []) rfl trivial (re_changed (g := g) (s := a) (n := m)) ?_
      intro r_1 h_1 e_1; rw [e_1.1, e_1.2]
      refine pg_re 1 (L := []) (r := some (.inl n)) (h0 := rm (pg_up (pg_up g 0 7 0) 0 8 0) a m) rfl trivial ?_
      refine Or.inr ⟨ham, rfl, _, rfl, rm_B_up (rm_B_up hB (by decide)) (by decide), fun p hp => h1 p (by omega), h3, rfl, rfl⟩
    · exact (by exfalso; omega)
  | succ d ih =>
    intro g j hd hj hB h3 h1
    refine pg_br 2 (L := []) (P := pg_inR j ∧ pg_inR 144) (c := 144 ≤ j) (st1 := (74, [(0, .inr (.inr 0)), (1, .inl a), (2, .inl m), (3, .inl n), (4, .inl j)], [], rm g a m)) (st2 := (60, [(0, .inr (.inr 0)), (1, .inl a), (2, .inl m), (3, .inl n), (4, .inl j)], [], rm g a m)) rfl trivial ⟨⟨by omega, by omega⟩, ⟨by decide, by decide⟩⟩ (fun c_57_2 => ?_) (fun c_57_2 => ?_)
    · exact (by exfalso; omega)
    · refine pg_go 7 (L := [0 ≤ j ∧ j < (144 : Int)]) (st' := (52, [(0, .inr (.inr 0)), (1, .inl a), (2, .inl m), (3, .inl n), (4, .inl (j + 1))], [], pg_up (rm g a m) 1 j.toNat 0)) rfl ⟨by omega, by omega⟩ ?_
      rw [rm_upq (q := 1) (by decide)]
      refine ih _ _ (by omega) (by omega) (rm_B_up hB (by decide)) h3 (fun p hp => ?_)
      rw [pg_up_at]
      split
      · rfl
      · exact h1 p (by omega)
theorem re_begin {g : pg_H} {s n : Int} (hB : rm_B g s n) (a : Int) (ha : pg_inR a) (m : Int) (hm : pg_inR m) : pg_Sem false pm_T_begin [.inr (.inr 0), .inl a, .inl m] (rm g s n) (fun r h' => (¬ ((0 ≤ a ∧ a ≤ 1) ∧ 1 ≤ m ∧ m ≤ 12) ∧ r = some (.inl (-2)) ∧ h' = rm g s n) ∨ (((0 ≤ a ∧ a ≤ 1) ∧ 1 ≤ m ∧ m ≤ 12) ∧ r = some (.inl n) ∧ ∃ g', h' = rm g' a m ∧ rm_B g' a m ∧ (∀ p : Nat, p < 144 → g' 1 p = 0) ∧ g' 0 3 = 0 ∧ g' 0 7 = 0 ∧ g' 0 8 = 0)) := by
  obtain ⟨hs, hn, hT⟩ := id hB
  obtain ⟨hn1, hn2⟩ := id hn
  have hr := mt_rd_or hs
  obtain ⟨a1, a2⟩ := ha
  obtain ⟨m1, m2⟩ := hm
  refine pg_Sem_of pm_T_begin_f rfl ?_
  refine pg_ca 4 (L := [pg_inR a]) (Mc := pm_T_isIn) (as := [.inr (.inl a), .inr (.inl 0), .inr (.inl 1)]) (h0 := rm g s n) (pc := 7) (lv := [(0, .inr (.inr 0)), (1, .inl a), (2, .inl m)]) (rest := []) rfl ⟨by omega, by omega⟩ (re_isIn (rm g s n) a 0 1 ⟨by omega, by omega⟩ ⟨by omega, by omega⟩ ⟨by omega, by omega⟩) ?_
  intro r_1 h_1 e_1; rw [e_1.1, e_1.2]
  have hin_4 : ((if 0 ≤ a ∧ a ≤ 1 then (1 : Int) else 0) = 1 ∧ (0 ≤ a ∧ a ≤ 1)) ∨ ((if 0 ≤ a ∧ a ≤ 1 then (1 : Int) else 0) = 0 ∧ ¬ (0 ≤ a ∧ a ≤ 1)) := by split <;> simp_all
  refine pg_br 0 (L := []) (P := pg_inR (if 0 ≤ a ∧ a ≤ 1 then 1 else 0)) (c := (if 0 ≤ a ∧ a ≤ 1 then 1 else 0) = 0) (st1 := (22, [(0, .inr (.inr 0)), (1, .inl a), (2, .inl m)], [], rm g s n)) (st2 := (10, [(0, .inr (.inr 0)), (1, .inl a), (2, .inl m)], [], rm g s n)) rfl trivial ⟨by omega, by omega⟩ (fun c_7_1 => ?_) (fun c_7_1 => ?_)
  · refine pg_re 1 (L := []) (r := some (.inl (-2))) (h0 := rm g s n) rfl trivial ?_
    exact Or.inl ⟨by omega, rfl, rfl⟩
  · refine pg_ca 4 (L := [pg_inR m]) (Mc := pm_T_isIn) (as := [.inr (.inl m), .inr (.inl 1), .inr (.inl 12)]) (h0 := rm g s n) (pc := 19) (lv := [(0, .inr (.inr 0)), (1, .inl a), (2, .inl m)]) (rest := []) rfl ⟨by omega, by omega⟩ (re_isIn (rm g s n) m 1 12 ⟨by omega, by omega⟩ ⟨by omega, by omega⟩ ⟨by omega, by omega⟩) ?_
    intro r_1 h_1 e_1; rw [e_1.1, e_1.2]
    have hin_16 : ((if 1 ≤ m ∧ m ≤ 12 then (1 : Int) else 0) = 1 ∧ (1 ≤ m ∧ m ≤ 12)) ∨ ((if 1 ≤ m ∧ m ≤ 12 then (1 : Int) else 0) = 0 ∧ ¬ (1 ≤ m ∧ m ≤ 12)) := by split <;> simp_all
    refine pg_br 0 (L := []) (P := pg_inR (if 1 ≤ m ∧ m ≤ 12 then 1 else 0)) (c := ¬ (if 1 ≤ m ∧ m ≤ 12 then 1 else 0) = 0) (st1 := (25, [(0, .inr (.inr 0)), (1, .inl a), (2, .inl m)], [], rm g s n)) (st2 := (22, [(0, .inr (.inr 0)), (1, .inl a), (2, .inl m)], [], rm g s n)) rfl trivial ⟨by omega, by omega⟩ (fun c_19_2 => ?_) (fun c_19_2 => ?_)
    · refine pg_go 10 (L := []) (st' := (41, [(0, .inr (.inr 0)), (1, .inl a), (2, .inl m), (3, .inl n)], [.inr (.inr 0)], pg_up (pg_up (rm g s n) 0 0 a) 0 1 m)) rfl trivial ?_
      rw [rm_u0, rm_u1]
      refine pg_ca 0 (L := []) (Mc := pm_T_findLinear) (as := [.inr (.inr 0)]) (h0 := rm g a m) (pc := 44) (lv := [(0, .inr (.inr 0)), (1, .inl a), (2, .inl m), (3, .inl n)]) (rest := []) rfl trivial (re_findLinear (g := g) (s := a) (n := m) (by omega)) ?_
      intro r_1 h_1 e_1; obtain ⟨er_, g2, eh_, hT2, ef2⟩ := e_1; rw [er_, eh_]
      refine pg_go 5 (L := []) (st' := (52, [(0, .inr (.inr 0)), (1, .inl a), (2, .inl m), (3, .inl n), (4, .inl 0)], [], pg_up (rm g2 a m) 0 3 0)) rfl trivial ?_
      rw [rm_up0 (i := 3) (by decide) (by decide)]
      refine re_begin_l (by omega) 144 _ 0 (by omega) (by omega) (rm_B_up ⟨by omega, by omega, hT2⟩ (by decide)) rfl (fun p hp => absurd hp (by omega))
    · refine pg_re 1 (L := []) (r := some (.inl (-2))) (h0 := rm g s n) rfl trivial ?_
      exact Or.inl ⟨by omega, rfl, rfl⟩
theorem re_paint {g : pg_H} {s n : Int} (hB : rm_B g s n) (x : Int) (hx : pg_inR x) (y : Int) (hy : pg_inR y) (c : Int) (hc : pg_inR c) : pg_Sem false pm_T_paint [.inr (.inr 0), .inl x, .inl y, .inl c] (rm g s n) (fun r h' => (¬ (0 ≤ c ∧ c ≤ 9) ∧ r = some (.inl (-2)) ∧ h' = rm g s n) ∨ ((0 ≤ c ∧ c ≤ 9) ∧ r = some (.inl (g 1 (mt_pt n (x % n) (y % n)).toNat)) ∧ ∃ g', h' = rm g' s n ∧ rf [1] [7, 8] g g' ∧ g' 1 = (fun q => if q = (mt_pt n (x % n) (y % n)).toNat then c else g 1 q) ∧ g' 0 7 = 0 ∧ g' 0 8 = 0)) := by
  obtain ⟨hs, hn, hT⟩ := id hB
  obtain ⟨hn1, hn2⟩ := id hn
  have hr := mt_rd_or hs
  obtain ⟨x1, x2⟩ := hx
  obtain ⟨y1, y2⟩ := hy
  obtain ⟨c1, c2⟩ := hc
  have hpt := mt_pt_bd hn1 hn2 (mt_mod hn1 x) (mt_mod hn1 y)
  refine pg_Sem_of pm_T_paint_f rfl ?_
  refine pg_ca 4 (L := [pg_inR c]) (Mc := pm_T_isIn) (as := [.inr (.inl c), .inr (.inl 0), .inr (.inl 9)]) (h0 := rm g s n) (pc := 9) (lv := [(0, .inr (.inr 0)), (1, .inl x), (2, .inl y), (3, .inl c)]) (rest := []) rfl ⟨by omega, by omega⟩ (re_isIn (rm g s n) c 0 9 ⟨by omega, by omega⟩ ⟨by omega, by omega⟩ ⟨by omega, by omega⟩) ?_
  intro r_1 h_1 e_1; rw [e_1.1, e_1.2]
  have hin_6 : ((if 0 ≤ c ∧ c ≤ 9 then (1 : Int) else 0) = 1 ∧ (0 ≤ c ∧ c ≤ 9)) ∨ ((if 0 ≤ c ∧ c ≤ 9 then (1 : Int) else 0) = 0 ∧ ¬ (0 ≤ c ∧ c ≤ 9)) := by split <;> simp_all
  refine pg_br 0 (L := []) (P := pg_inR (if 0 ≤ c ∧ c ≤ 9 then 1 else 0)) (c := ¬ (if 0 ≤ c ∧ c ≤ 9 then 1 else 0) = 0) (st1 := (15, [(0, .inr (.inr 0)), (1, .inl x), (2, .inl y), (3, .inl c)], [], rm g s n)) (st2 := (12, [(0, .inr (.inr 0)), (1, .inl x), (2, .inl y), (3, .inl c)], [], rm g s n)) rfl trivial ⟨by omega, by omega⟩ (fun c_9_1 => ?_) (fun c_9_1 => ?_)
  · refine pg_ca 7 (L := [pg_inR x, pg_inR y]) (Mc := pm_T_at) (as := [.inr (.inr 0), .inr (.inl x), .inr (.inl y)]) (h0 := rm g s n) (pc := 27) (lv := [(0, .inr (.inr 0)), (1, .inl x), (2, .inl y), (3, .inl c)]) (rest := [.inr (.inr 1)]) rfl ⟨⟨by omega, by omega⟩, ⟨by omega, by omega⟩⟩ (re_at (g := g) (s := s) hn x y ⟨by omega, by omega⟩ ⟨by omega, by omega⟩) ?_
    intro r_1 h_1 e_1; rw [e_1.1, e_1.2]
    refine pg_ca 9 (L := [0 ≤ (mt_pt n (x % n) (y % n)) ∧ (mt_pt n (x % n) (y % n)) < (144 : Int), pg_inR x, pg_inR y]) (Mc := pm_T_at) (as := [.inr (.inr 0), .inr (.inl x), .inr (.inl y)]) (h0 := rm g s n) (pc := 42) (lv := [(0, .inr (.inr 0)), (1, .inl x), (2, .inl y), (3, .inl c), (4, .inl (g 1 ((mt_pt n (x % n) (y % n)).toNat)))]) (rest := [.inr (.inr 1)]) rfl ⟨⟨by omega, by omega⟩, ⟨by omega, by omega⟩, ⟨by omega, by omega⟩⟩ (re_at (g := g) (s := s) hn x y ⟨by omega, by omega⟩ ⟨by omega, by omega⟩) ?_
    intro r_1 h_1 e_1; rw [e_1.1, e_1.2]
    refine pg_go 3 (L := [0 ≤ (mt_pt n (x % n) (y % n)) ∧ (mt_pt n (x % n) (y % n)) < (144 : Int)]) (st' := (45, [(0, .inr (.inr 0)), (1, .inl x), (2, .inl y), (3, .inl c), (4, .inl (g 1 ((mt_pt n (x % n) (y % n)).toNat)))], [.inr (.inr 0)], pg_up (rm g s n) 1 ((mt_pt n (x % n) (y % n)).toNat) c)) rfl ⟨by omega, by omega⟩ ?_
    rw [rm_upq (q := 1) (by decide)]
    refine pg_ca 0 (L := []) (Mc := pm_T_changed) (as := [.inr (.inr 0)]) (h0 := rm (pg_up g 1 ((mt_pt n (x % n) (y % n)).toNat) c) s n) (pc := 48) (lv := [(0, .inr (.inr 0)), (1, .inl x), (2, .inl y), (3, .inl c), (4, .inl (g 1 ((mt_pt n (x % n) (y % n)).toNat)))]) (rest := []) rfl trivial (re_changed (g := (pg_up g 1 ((mt_pt n (x % n) (y % n)).toNat) c)) (s := s) (n := n)) ?_
    intro r_1 h_1 e_1; rw [e_1.1, e_1.2]
    refine pg_re 1 (L := []) (r := some (.inl (g 1 ((mt_pt n (x % n) (y % n)).toNat)))) (h0 := rm (pg_up (pg_up (pg_up g 1 ((mt_pt n (x % n) (y % n)).toNat) c) 0 7 0) 0 8 0) s n) rfl trivial ?_
    refine Or.inr ⟨by omega, rfl, _, rfl, (rf_0 (rf_0 (rf_q (rf_rf _ _ _) (by decide) (by decide) _ _) (by decide) _) (by decide) _), ?_, rfl, rfl⟩
    funext q
    show pg_up g 1 (mt_pt n (x % n) (y % n)).toNat c 1 q = _
    rw [pg_up_at]
  · refine pg_re 1 (L := []) (r := some (.inl (-2))) (h0 := rm g s n) rfl trivial ?_
    exact Or.inl ⟨by omega, rfl, rfl⟩
set_option maxHeartbeats 4000000 in
theorem re_paints_l {g0 : pg_H} {s n : Int} (hB0 : rm_B g0 s n) (x : Int) (hx : pg_inR x) (y : Int) (hy : pg_inR y) {w D : Int} (hw : 1 ≤ w ∧ w ≤ 9) (hD : 0 ≤ D ∧ D ≤ 2147483647) : ∀ (d : Nat) (g : pg_H) (f e j : Int) (hd : j + (d : Int) = w) (hj : 0 ≤ j) (hf : rf [1] [7, 8] g0 g) (hCg : ri_C g) (h7 : g 1 = (pa_run n x y D (g0 1) j.toNat).1) (hfv : f = (pa_run n x y D (g0 1) j.toNat).2) (he : e = D / 10 ^ j.toNat), pg_Good false pm_T_paints (fun r h' => (¬ ((1 ≤ w ∧ w ≤ 9) ∧ 0 ≤ D) ∧ r = some (.inl (-2)) ∧ h' = rm g0 s n) ∨ (((1 ≤ w ∧ w ≤ 9) ∧ 0 ≤ D) ∧ r = some (.inl (pa_run n x y D (g0 1) w.toNat).2) ∧ ∃ g', h' = rm g' s n ∧ rf [1] [7, 8] g0 g' ∧ g' 1 = (pa_run n x y D (g0 1) w.toNat).1 ∧ g' 0 7 = 0 ∧ g' 0 8 = 0)) (30, [(0, .inr (.inr 0)), (1, .inl x), (2, .inl y), (3, .inl w), (4, .inl D), (5, .inl f), (6, .inl e), (7, .inl j)], [], rm g s n) := by
  intro d
  induction d with
  | zero =>
    intro g f e j hd hj hf hCg h7 hfv he
    have hB := rm_B_fr hB0 hf (by decide)
    obtain ⟨hs, hn, -⟩ := id hB
    obtain ⟨hn1, hn2⟩ := id hn
    have hnn := mt_nn hn1 hn2
    obtain ⟨x1, x2⟩ := hx
    obtain ⟨y1, y2⟩ := hy
    have hrb := pa_run_bd n x y D (g0 1) j.toNat
    have he0 : 0 ≤ e ∧ e ≤ 2147483647 := by rw [he]; exact ⟨Int.ediv_nonneg hD.1 (Int.pow_nonneg (by decide)), Int.le_trans (Int.ediv_le_self _ hD.1) hD.2⟩
    have ht := pg_tdiv10 he0.1
    refine pg_br 2 (L := []) (P := pg_inR j ∧ pg_inR w) (c := w ≤ j) (st1 := (101, [(0, .inr (.inr 0)), (1, .inl x), (2, .inl y), (3, .inl w), (4, .inl D), (5, .inl f), (6, .inl e), (7, .inl j)], [], rm g s n)) (st2 := (36, [(0, .inr (.inr 0)), (1, .inl x), (2, .inl y), (3, .inl w), (4, .inl D), (5, .inl f), (6, .inl e), (7, .inl j)], [], rm g s n)) rfl trivial ⟨⟨by omega, by omega⟩, ⟨by omega, by omega⟩⟩ (fun c_33_1 => ?_) (fun c_33_1 => ?_)
    · refine pg_ca 1 (L := []) (Mc := pm_T_changed) (as := [.inr (.inr 0)]) (h0 := rm g s n) (pc := 105) (lv := [(0, .inr (.inr 0)), (1, .inl x), (2, .inl y), (3, .inl w), (4, .inl D), (5, .inl f), (6, .inl e), (7, .inl j)]) (rest := []) rfl trivial (re_changed (g := g) (s := s) (n := n)) ?_
      intro r_1 h_1 e_1; rw [e_1.1, e_1.2]
      refine pg_re 1 (L := []) (r := some (.inl f)) (h0 := rm (pg_up (pg_up g 0 7 0) 0 8 0) s n) rfl trivial ?_
      refine Or.inr ⟨⟨hw, hD.1⟩, by rw [hfv, show w = j by omega], _, rfl, (rf_0 (rf_0 hf (by decide) _) (by decide) _), ?_, rfl, rfl⟩
      rw [show w = j by omega]; exact h7
    · exact (by exfalso; omega)
  | succ d ih =>
    intro g f e j hd hj hf hCg h7 hfv he
    have hB := rm_B_fr hB0 hf (by decide)
    obtain ⟨hs, hn, -⟩ := id hB
    obtain ⟨hn1, hn2⟩ := id hn
    have hnn := mt_nn hn1 hn2
    obtain ⟨x1, x2⟩ := hx
    obtain ⟨y1, y2⟩ := hy
    have hrb := pa_run_bd n x y D (g0 1) j.toNat
    have he0 : 0 ≤ e ∧ e ≤ 2147483647 := by rw [he]; exact ⟨Int.ediv_nonneg hD.1 (Int.pow_nonneg (by decide)), Int.le_trans (Int.ediv_le_self _ hD.1) hD.2⟩
    have ht := pg_tdiv10 he0.1
    have hpt := mt_pt_bd hn1 hn2 (mt_mod hn1 (x + j)) (mt_mod hn1 y)
    have hcp := hCg (mt_pt n ((x + j) % n) (y % n)).toNat (by omega)
    have ek : (j + 1).toNat = j.toNat + 1 := by omega
    have ek2 : ((j.toNat : Nat) : Int) = j := by omega
    refine pg_br 2 (L := []) (P := pg_inR j ∧ pg_inR w) (c := w ≤ j) (st1 := (101, [(0, .inr (.inr 0)), (1, .inl x), (2, .inl y), (3, .inl w), (4, .inl D), (5, .inl f), (6, .inl e), (7, .inl j)], [], rm g s n)) (st2 := (36, [(0, .inr (.inr 0)), (1, .inl x), (2, .inl y), (3, .inl w), (4, .inl D), (5, .inl f), (6, .inl e), (7, .inl j)], [], rm g s n)) rfl trivial ⟨⟨by omega, by omega⟩, ⟨by omega, by omega⟩⟩ (fun c_33_2 => ?_) (fun c_33_2 => ?_)
    · exact (by exfalso; omega)
    · refine pg_ca 8 (L := [pg_inR x, pg_inR j, pg_inR y]) (Mc := pm_T_at) (as := [.inr (.inr 0), .inr (.inl (x + j)), .inr (.inl y)]) (h0 := rm g s n) (pc := 48) (lv := [(0, .inr (.inr 0)), (1, .inl x), (2, .inl y), (3, .inl w), (4, .inl D), (5, .inl f), (6, .inl e), (7, .inl j)]) (rest := []) rfl ⟨⟨by omega, by omega⟩, ⟨by omega, by omega⟩, ⟨by omega, by omega⟩⟩ (re_at (g := g) (s := s) hn (x + j) y ⟨by omega, by omega⟩ ⟨by omega, by omega⟩) ?_
      intro r_1 h_1 e_1; rw [e_1.1, e_1.2]
      refine pg_br 8 (L := [0 ≤ (mt_pt n ((x + j) % n) (y % n)) ∧ (mt_pt n ((x + j) % n) (y % n)) < (144 : Int), 10 ≠ 0 ∧ pg_inR e ∧ pg_inR 10]) (P := pg_inR (g 1 ((mt_pt n ((x + j) % n) (y % n)).toNat)) ∧ pg_inR (Int.tmod e 10)) (c := (g 1 ((mt_pt n ((x + j) % n) (y % n)).toNat)) = (Int.tmod e 10)) (st1 := (72, [(0, .inr (.inr 0)), (1, .inl x), (2, .inl y), (3, .inl w), (4, .inl D), (5, .inl f), (6, .inl e), (7, .inl j), (8, .inl (mt_pt n ((x + j) % n) (y % n)))], [], rm g s n)) (st2 := (65, [(0, .inr (.inr 0)), (1, .inl x), (2, .inl y), (3, .inl w), (4, .inl D), (5, .inl f), (6, .inl e), (7, .inl j), (8, .inl (mt_pt n ((x + j) % n) (y % n)))], [], rm g s n)) rfl ⟨⟨by omega, by omega⟩, ⟨by omega, ⟨by omega, by omega⟩, ⟨by omega, by omega⟩⟩⟩ ⟨⟨by omega, by omega⟩, ⟨by omega, by omega⟩⟩ (fun c_62_3 => ?_) (fun c_62_3 => ?_)
      · refine pg_go 15 (L := [10 ≠ 0 ∧ pg_inR e ∧ pg_inR 10, 0 ≤ (mt_pt n ((x + j) % n) (y % n)) ∧ (mt_pt n ((x + j) % n) (y % n)) < (144 : Int), 10 ≠ 0 ∧ pg_inR e ∧ pg_inR 10]) (st' := (30, [(0, .inr (.inr 0)), (1, .inl x), (2, .inl y), (3, .inl w), (4, .inl D), (5, .inl f), (6, .inl (Int.tdiv e 10)), (7, .inl (j + 1)), (8, .inl (mt_pt n ((x + j) % n) (y % n)))], [], pg_up (rm g s n) 1 ((mt_pt n ((x + j) % n) (y % n)).toNat) (Int.tmod e 10))) rfl ⟨⟨by omega, ⟨by omega, by omega⟩, ⟨by omega, by omega⟩⟩, ⟨by omega, by omega⟩, ⟨by omega, ⟨by omega, by omega⟩, ⟨by omega, by omega⟩⟩⟩ ?_
        rw [rm_upq (q := 1) (by decide)]
        refine pg_pick [0, 1, 2, 3, 4, 5, 6, 7] rfl ?_
        refine ih _ _ _ _ (by omega) (by omega) (rf_q hf (by decide) (by decide) _ _) ?_ ?_ ?_ ?_
        · intro q hq; rw [pg_up_at]; split; (· omega); (· exact hCg q hq)
        · rw [ek]; simp only [pa_run]; rw [ek2, ← h7]; funext q; rw [pg_up_at, ht.2, he]
        · rw [ek]; simp only [pa_run]; rw [ek2, ← h7, ← he, ← hfv]; first | (rw [if_pos (by omega)]; omega) | (rw [if_neg (by omega)])
        · rw [ht.1, he, ek, pg_p10]
      · refine pg_go 18 (L := [10 ≠ 0 ∧ pg_inR e ∧ pg_inR 10, 0 ≤ (mt_pt n ((x + j) % n) (y % n)) ∧ (mt_pt n ((x + j) % n) (y % n)) < (144 : Int), 10 ≠ 0 ∧ pg_inR e ∧ pg_inR 10]) (st' := (30, [(0, .inr (.inr 0)), (1, .inl x), (2, .inl y), (3, .inl w), (4, .inl D), (5, .inl (f + 1)), (6, .inl (Int.tdiv e 10)), (7, .inl (j + 1)), (8, .inl (mt_pt n ((x + j) % n) (y % n)))], [], pg_up (rm g s n) 1 ((mt_pt n ((x + j) % n) (y % n)).toNat) (Int.tmod e 10))) rfl ⟨⟨by omega, ⟨by omega, by omega⟩, ⟨by omega, by omega⟩⟩, ⟨by omega, by omega⟩, ⟨by omega, ⟨by omega, by omega⟩, ⟨by omega, by omega⟩⟩⟩ ?_
        rw [rm_upq (q := 1) (by decide)]
        refine pg_pick [0, 1, 2, 3, 4, 5, 6, 7] rfl ?_
        refine ih _ _ _ _ (by omega) (by omega) (rf_q hf (by decide) (by decide) _ _) ?_ ?_ ?_ ?_
        · intro q hq; rw [pg_up_at]; split; (· omega); (· exact hCg q hq)
        · rw [ek]; simp only [pa_run]; rw [ek2, ← h7]; funext q; rw [pg_up_at, ht.2, he]
        · rw [ek]; simp only [pa_run]; rw [ek2, ← h7, ← he, ← hfv]; first | (rw [if_pos (by omega)]; omega) | (rw [if_neg (by omega)])
        · rw [ht.1, he, ek, pg_p10]
theorem re_paints {g : pg_H} {s n : Int} (hB : rm_B g s n) (hC : ri_C g) (x : Int) (hx : pg_inR x) (y : Int) (hy : pg_inR y) (w : Int) (hw : pg_inR w) (D : Int) (hD : pg_inR D) : pg_Sem false pm_T_paints [.inr (.inr 0), .inl x, .inl y, .inl w, .inl D] (rm g s n) (fun r h' => (¬ ((1 ≤ w ∧ w ≤ 9) ∧ 0 ≤ D) ∧ r = some (.inl (-2)) ∧ h' = rm g s n) ∨ (((1 ≤ w ∧ w ≤ 9) ∧ 0 ≤ D) ∧ r = some (.inl (pa_run n x y D (g 1) w.toNat).2) ∧ ∃ g', h' = rm g' s n ∧ rf [1] [7, 8] g g' ∧ g' 1 = (pa_run n x y D (g 1) w.toNat).1 ∧ g' 0 7 = 0 ∧ g' 0 8 = 0)) := by
  obtain ⟨hs, hn, hT⟩ := id hB
  obtain ⟨hn1, hn2⟩ := id hn
  have hr := mt_rd_or hs
  obtain ⟨w1, w2⟩ := hw
  obtain ⟨D1, D2⟩ := hD
  refine pg_Sem_of pm_T_paints_f rfl ?_
  refine pg_ca 4 (L := [pg_inR w]) (Mc := pm_T_isIn) (as := [.inr (.inl w), .inr (.inl 1), .inr (.inl 9)]) (h0 := rm g s n) (pc := 9) (lv := [(0, .inr (.inr 0)), (1, .inl x), (2, .inl y), (3, .inl w), (4, .inl D)]) (rest := []) rfl ⟨by omega, by omega⟩ (re_isIn (rm g s n) w 1 9 ⟨by omega, by omega⟩ ⟨by omega, by omega⟩ ⟨by omega, by omega⟩) ?_
  intro r_1 h_1 e_1; rw [e_1.1, e_1.2]
  have hin_6 : ((if 1 ≤ w ∧ w ≤ 9 then (1 : Int) else 0) = 1 ∧ (1 ≤ w ∧ w ≤ 9)) ∨ ((if 1 ≤ w ∧ w ≤ 9 then (1 : Int) else 0) = 0 ∧ ¬ (1 ≤ w ∧ w ≤ 9)) := by split <;> simp_all
  refine pg_br 0 (L := []) (P := pg_inR (if 1 ≤ w ∧ w ≤ 9 then 1 else 0)) (c := (if 1 ≤ w ∧ w ≤ 9 then 1 else 0) = 0) (st1 := (17, [(0, .inr (.inr 0)), (1, .inl x), (2, .inl y), (3, .inl w), (4, .inl D)], [], rm g s n)) (st2 := (12, [(0, .inr (.inr 0)), (1, .inl x), (2, .inl y), (3, .inl w), (4, .inl D)], [], rm g s n)) rfl trivial ⟨by omega, by omega⟩ (fun c_9_1 => ?_) (fun c_9_1 => ?_)
  · refine pg_re 1 (L := []) (r := some (.inl (-2))) (h0 := rm g s n) rfl trivial ?_
    exact Or.inl ⟨by omega, rfl, rfl⟩
  · refine pg_br 1 (L := []) (P := pg_inR D) (c := 0 ≤ D) (st1 := (20, [(0, .inr (.inr 0)), (1, .inl x), (2, .inl y), (3, .inl w), (4, .inl D)], [], rm g s n)) (st2 := (17, [(0, .inr (.inr 0)), (1, .inl x), (2, .inl y), (3, .inl w), (4, .inl D)], [], rm g s n)) rfl trivial ⟨by omega, by omega⟩ (fun c_14_2 => ?_) (fun c_14_2 => ?_)
    · refine pg_go 6 (L := []) (st' := (30, [(0, .inr (.inr 0)), (1, .inl x), (2, .inl y), (3, .inl w), (4, .inl D), (5, .inl 0), (6, .inl D), (7, .inl 0)], [], rm g s n)) rfl trivial ?_
      exact re_paints_l hB x hx y hy (w := w) (D := D) (by omega) (by omega) w.toNat g 0 D 0 (by omega) (by omega) (rf_rf _ _ _) hC rfl rfl (by simp)
    · refine pg_re 1 (L := []) (r := some (.inl (-2))) (h0 := rm g s n) rfl trivial ?_
      exact Or.inl ⟨by omega, rfl, rfl⟩
theorem re_generate {g : pg_H} {s n : Int} (hB : rm_B g s n) (hG : ri_G g s n) (k : Int) (hk : pg_inR k) (u : Int) (hu : pg_inR u) (v : Int) (hv : pg_inR v) : pg_Sem false pm_T_generate [.inr (.inr 0), .inl k, .inl u, .inl v] (rm g s n) (fun r h' => (¬ (0 ≤ k ∧ k < 2 * mt_rd s) ∧ r = some (.inl (-2)) ∧ h' = rm g s n) ∨ ((0 ≤ k ∧ k < 2 * mt_rd s) ∧ g 0 3 = 6 ∧ r = some (.inl (-3)) ∧ h' = rm g s n) ∨ ((0 ≤ k ∧ k < 2 * mt_rd s) ∧ g 0 3 < 6 ∧ r = some (.inl (g 0 3 + 1)) ∧ ∃ g', h' = rm g' s n ∧ rf [2] [3] g g' ∧ g' 0 3 = g 0 3 + 1 ∧ g' 2 (3 * g 0 3).toNat = k ∧ g' 2 (3 * g 0 3 + 1).toNat = u % n ∧ g' 2 (3 * g 0 3 + 2).toNat = v % n ∧ ∀ q : Nat, (q : Int) < 3 * g 0 3 → g' 2 q = g 2 q)) := by
  obtain ⟨hs, hn, hT⟩ := id hB
  obtain ⟨hn1, hn2⟩ := id hn
  have hr := mt_rd_or hs
  obtain ⟨k1, k2⟩ := hk
  obtain ⟨u1, u2⟩ := hu
  obtain ⟨v1, v2⟩ := hv
  have hg := hG.1
  refine pg_Sem_of pm_T_generate_f rfl ?_
  refine pg_ca 2 (L := []) (Mc := pm_T_isK) (as := [.inr (.inr 0), .inl k]) (h0 := rm g s n) (pc := 5) (lv := [(0, .inr (.inr 0)), (1, .inl k), (2, .inl u), (3, .inl v)]) (rest := []) rfl trivial (re_isK (g := g) (n := n) hs k ⟨by omega, by omega⟩) ?_
  intro r_1 h_1 e_1; rw [e_1.1, e_1.2]
  have hik_2 : ((if 0 ≤ k ∧ k < 2 * mt_rd s then (1 : Int) else 0) = 1 ∧ (0 ≤ k ∧ k < 2 * mt_rd s)) ∨ ((if 0 ≤ k ∧ k < 2 * mt_rd s then (1 : Int) else 0) = 0 ∧ ¬ (0 ≤ k ∧ k < 2 * mt_rd s)) := by split <;> simp_all
  refine pg_br 0 (L := []) (P := pg_inR (if 0 ≤ k ∧ k < 2 * mt_rd s then 1 else 0)) (c := ¬ (if 0 ≤ k ∧ k < 2 * mt_rd s then 1 else 0) = 0) (st1 := (11, [(0, .inr (.inr 0)), (1, .inl k), (2, .inl u), (3, .inl v)], [], rm g s n)) (st2 := (8, [(0, .inr (.inr 0)), (1, .inl k), (2, .inl u), (3, .inl v)], [], rm g s n)) rfl trivial ⟨by omega, by omega⟩ (fun c_5_1 => ?_) (fun c_5_1 => ?_)
  · refine pg_br 3 (L := []) (P := pg_inR (g 0 3) ∧ pg_inR 6) (c := ¬ (g 0 3) = 6) (st1 := (23, [(0, .inr (.inr 0)), (1, .inl k), (2, .inl u), (3, .inl v)], [], rm g s n)) (st2 := (20, [(0, .inr (.inr 0)), (1, .inl k), (2, .inl u), (3, .inl v)], [], rm g s n)) rfl trivial ⟨⟨by omega, by omega⟩, ⟨by decide, by decide⟩⟩ (fun c_17_2 => ?_) (fun c_17_2 => ?_)
    · refine pg_ca 20 (L := [0 ≤ (3 * (g 0 3)) ∧ (3 * (g 0 3)) < (18 : Int), pg_inR u]) (Mc := pm_T_mod) (as := [.inr (.inl u), .inl n]) (h0 := pg_up (rm g s n) 2 ((3 * (g 0 3)).toNat) k) (pc := 56) (lv := [(0, .inr (.inr 0)), (1, .inl k), (2, .inl u), (3, .inl v)]) (rest := [.inl ((3 * (g 0 3)) + 1), .inr (.inr 2)]) rfl ⟨⟨by omega, by omega⟩, ⟨by omega, by omega⟩⟩ (re_mod (pg_up (rm g s n) 2 ((3 * (g 0 3)).toNat) k) u n ⟨by omega, by omega⟩ ⟨by omega, by omega⟩) ?_
      intro r_1 h_1 e_1; rw [e_1.1, e_1.2]
      have hm_53 := mt_mod (n := n) (by omega) u
      refine pg_ca 13 (L := [0 ≤ ((3 * (g 0 3)) + 1) ∧ ((3 * (g 0 3)) + 1) < (18 : Int), pg_inR v]) (Mc := pm_T_mod) (as := [.inr (.inl v), .inl n]) (h0 := pg_up (pg_up (rm g s n) 2 ((3 * (g 0 3)).toNat) k) 2 (((3 * (g 0 3)) + 1).toNat) (u % n)) (pc := 78) (lv := [(0, .inr (.inr 0)), (1, .inl k), (2, .inl u), (3, .inl v)]) (rest := [.inl ((3 * (g 0 3)) + 2), .inr (.inr 2)]) rfl ⟨⟨by omega, by omega⟩, ⟨by omega, by omega⟩⟩ (re_mod (pg_up (pg_up (rm g s n) 2 ((3 * (g 0 3)).toNat) k) 2 (((3 * (g 0 3)) + 1).toNat) (u % n)) v n ⟨by omega, by omega⟩ ⟨by omega, by omega⟩) ?_
      intro r_1 h_1 e_1; rw [e_1.1, e_1.2]
      have hm_75 := mt_mod (n := n) (by omega) v
      refine pg_go 9 (L := [0 ≤ ((3 * (g 0 3)) + 2) ∧ ((3 * (g 0 3)) + 2) < (18 : Int)]) (st' := (93, [(0, .inr (.inr 0)), (1, .inl k), (2, .inl u), (3, .inl v)], [.inl ((g 0 3) + 1)], pg_up (pg_up (pg_up (pg_up (rm g s n) 2 ((3 * (g 0 3)).toNat) k) 2 (((3 * (g 0 3)) + 1).toNat) (u % n)) 2 (((3 * (g 0 3)) + 2).toNat) (v % n)) 0 3 ((g 0 3) + 1))) rfl ⟨by omega, by omega⟩ ?_
      rw [rm_upq (q := 2) (by decide), rm_upq (q := 2) (by decide), rm_upq (q := 2) (by decide), rm_up0 (i := 3) (by decide) (by decide)]
      refine pg_re 0 (L := []) (r := some (.inl ((g 0 3) + 1))) (h0 := rm (pg_up (pg_up (pg_up (pg_up g 2 ((3 * (g 0 3)).toNat) k) 2 (((3 * (g 0 3)) + 1).toNat) (u % n)) 2 (((3 * (g 0 3)) + 2).toNat) (v % n)) 0 3 ((g 0 3) + 1)) s n) rfl trivial ?_
      refine Or.inr (Or.inr ⟨by omega, by omega, rfl, _, rfl, (rf_0 (rf_q (rf_q (rf_q (rf_rf _ _ _) (by decide) (by decide) _ _) (by decide) (by decide) _ _) (by decide) (by decide) _ _) (by decide) _), rfl, ?_, ?_, ?_, fun q hq => ?_⟩)
      all_goals rw [pg_up_ne _ _ _ (by decide)]
      all_goals rw [pg_up_at, pg_up_at, pg_up_at]
      · rw [if_neg (by omega), if_neg (by omega), if_pos rfl]
      · rw [if_neg (by omega), if_pos rfl]
      · rw [if_pos rfl]
      · rw [if_neg (by omega), if_neg (by omega), if_neg (by omega)]
    · refine pg_re 1 (L := []) (r := some (.inl (-3))) (h0 := rm g s n) rfl trivial ?_
      exact Or.inr (Or.inl ⟨by omega, by omega, rfl, rfl⟩)
  · refine pg_re 1 (L := []) (r := some (.inl (-2))) (h0 := rm g s n) rfl trivial ?_
    exact Or.inl ⟨by omega, rfl, rfl⟩
set_option maxHeartbeats 4000000 in
theorem re_lo_l {g0 : pg_H} {s n : Int} (hB0 : rm_B g0 s n) (hC0 : ri_C g0) {x y : Int} (hx : 0 ≤ x ∧ x < n) (hy : 0 ≤ y ∧ y < n) : ∀ (d : Nat) (g : pg_H) (b a : Int) (hd : a + (d : Int) = pg_cn (mt_sm (g0 1) s n) (2 * mt_rd s * (n * n)).toNat) (ha : 0 ≤ a) (hf : rf [3] [6, 7, 15, 16] g0 g) (h7 : g 0 7 = 1) (hS : ri_S g s n) (hb : 0 ≤ b ∧ b ≤ 144) (hI : ri_Lw (mt_sm (g0 1) s n) (mt_tm s n x y) (2 * mt_rd s * (n * n)).toNat b a), pg_Good false pm_T_leastOf (fun r h' => r = some (.inl (mt_lo (g0 1) s n x y)) ∧ ∃ g', h' = rm g' s n ∧ rf [3] [6, 7, 15, 16] g0 g' ∧ ri_K g' s n ∧ g' 0 7 = 1) (11, [(0, .inr (.inr 0)), (1, .inl x), (2, .inl y), (3, .inl b), (4, .inl a)], [], rm g s n) := by
  intro d
  induction d with
  | zero =>
    intro g b a hd ha hf h7 hS hb hI
    have hB := rm_B_fr hB0 hf (by decide)
    have hC := ri_C_fr hC0 hf (by decide)
    obtain ⟨hs, hn, -⟩ := id hB
    obtain ⟨hn1, hn2⟩ := id hn
    have hr := mt_rd_or hs
    have e1 : g 1 = g0 1 := hf.1 1 (by decide) (by decide)
    have hN := mt_2rn hs hn
    have h6 : g 0 6 = pg_cn (mt_sm (g0 1) s n) (2 * mt_rd s * (n * n)).toNat := by rw [hS.1, e1]
    have hcb := pg_cn_bd (mt_sm (g0 1) s n) (2 * mt_rd s * (n * n)).toNat
    refine pg_br 3 (L := []) (P := pg_inR a ∧ pg_inR (g 0 6)) (c := (g 0 6) ≤ a) (st1 := (80, [(0, .inr (.inr 0)), (1, .inl x), (2, .inl y), (3, .inl b), (4, .inl a)], [], rm g s n)) (st2 := (20, [(0, .inr (.inr 0)), (1, .inl x), (2, .inl y), (3, .inl b), (4, .inl a)], [], rm g s n)) rfl trivial ⟨⟨by omega, by omega⟩, ⟨by omega, by omega⟩⟩ (fun c_17_1 => ?_) (fun c_17_1 => ?_)
    · refine pg_re 1 (L := []) (r := some (.inl b)) (h0 := rm g s n) rfl trivial ?_
      refine ⟨?_, g, rfl, hf, Or.inr ⟨h7, hS⟩, h7⟩
      congr 2
      refine ri_mn_u hI.1 hb.2 (fun m h1 h2 => hI.2 m h1 h2 ?_)
      have := pg_cn_lt2 h1 h2
      omega
    · exact (by exfalso; omega)
  | succ d ih =>
    intro g b a hd ha hf h7 hS hb hI
    have hB := rm_B_fr hB0 hf (by decide)
    have hC := ri_C_fr hC0 hf (by decide)
    obtain ⟨hs, hn, -⟩ := id hB
    obtain ⟨hn1, hn2⟩ := id hn
    have hr := mt_rd_or hs
    have e1 : g 1 = g0 1 := hf.1 1 (by decide) (by decide)
    have hN := mt_2rn hs hn
    have h6 : g 0 6 = pg_cn (mt_sm (g0 1) s n) (2 * mt_rd s * (n * n)).toNat := by rw [hS.1, e1]
    have hcb := pg_cn_bd (mt_sm (g0 1) s n) (2 * mt_rd s * (n * n)).toNat
    obtain ⟨m, hm1, hm2, hm3⟩ := pg_cn_ex ha (show a < pg_cn (mt_sm (g0 1) s n) (2 * mt_rd s * (n * n)).toNat by omega)
    have hma : g 3 a.toNat = (m : Int) := by
      have h1 := hS.2 m (by omega) (by rw [e1]; exact hm2)
      rw [e1, hm3] at h1
      exact h1
    have hka := mt_kof hn1 (show 0 ≤ (m : Int) ∧ (m : Int) < 2 * mt_rd s * (n * n) by omega)
    rw [← hma] at hka
    have hua := mt_mod hn1 (g 3 a.toNat / n)
    have hva := mt_mod hn1 (g 3 a.toNat)
    have htb := mt_tg_bd (s := s) (k := g 3 a.toNat / (n * n)) (u := g 3 a.toNat / n % n) (v := g 3 a.toNat % n) (x := x) (y := y) hn1 hn2
    have hst := ri_Lw_s hI hm1 hm2 hm3
    have hfm : (mt_tm s n x y) m = mt_tg s n (g 3 a.toNat / (n * n)) (g 3 a.toNat / n % n) (g 3 a.toNat % n) x y := by unfold mt_tm; rw [hma]
    refine pg_br 3 (L := []) (P := pg_inR a ∧ pg_inR (g 0 6)) (c := (g 0 6) ≤ a) (st1 := (80, [(0, .inr (.inr 0)), (1, .inl x), (2, .inl y), (3, .inl b), (4, .inl a)], [], rm g s n)) (st2 := (20, [(0, .inr (.inr 0)), (1, .inl x), (2, .inl y), (3, .inl b), (4, .inl a)], [], rm g s n)) rfl trivial ⟨⟨by omega, by omega⟩, ⟨by omega, by omega⟩⟩ (fun c_17_2 => ?_) (fun c_17_2 => ?_)
    · exact (by exfalso; omega)
    · refine pg_ca 6 (L := [0 ≤ a ∧ a < (1728 : Int)]) (Mc := pm_T_kOf) (as := [.inr (.inr 0), .inl (g 3 a.toNat)]) (h0 := rm g s n) (pc := 32) (lv := [(0, .inr (.inr 0)), (1, .inl x), (2, .inl y), (3, .inl b), (4, .inl a)]) (rest := [.inr (.inr 0)]) rfl ⟨by omega, by omega⟩ (re_kOf (g := g) (s := s) hn (g 3 a.toNat) ⟨by omega, by omega⟩) ?_
      intro r_1 h_1 e_1; rw [e_1.1, e_1.2]
      refine pg_ca 5 (L := [0 ≤ a ∧ a < (1728 : Int)]) (Mc := pm_T_uOf) (as := [.inr (.inr 0), .inl (g 3 a.toNat)]) (h0 := rm g s n) (pc := 43) (lv := [(0, .inr (.inr 0)), (1, .inl x), (2, .inl y), (3, .inl b), (4, .inl a)]) (rest := [.inl ((g 3 a.toNat) / (n * n)), .inr (.inr 0)]) rfl ⟨by omega, by omega⟩ (re_uOf (g := g) (s := s) hn (g 3 a.toNat) ⟨by omega, by omega⟩) ?_
      intro r_1 h_1 e_1; rw [e_1.1, e_1.2]
      refine pg_ca 5 (L := [0 ≤ a ∧ a < (1728 : Int)]) (Mc := pm_T_vOf) (as := [.inr (.inr 0), .inl (g 3 a.toNat)]) (h0 := rm g s n) (pc := 54) (lv := [(0, .inr (.inr 0)), (1, .inl x), (2, .inl y), (3, .inl b), (4, .inl a)]) (rest := [.inl ((g 3 a.toNat) / n % n), .inl ((g 3 a.toNat) / (n * n)), .inr (.inr 0)]) rfl ⟨by omega, by omega⟩ (re_vOf (g := g) (s := s) hn (g 3 a.toNat) ⟨by omega, by omega⟩) ?_
      intro r_1 h_1 e_1; rw [e_1.1, e_1.2]
      refine pg_ca 2 (L := []) (Mc := pm_T_pointBy) (as := [.inr (.inr 0), .inl ((g 3 a.toNat) / (n * n)), .inl ((g 3 a.toNat) / n % n), .inl ((g 3 a.toNat) % n), .inl x, .inl y]) (h0 := rm g s n) (pc := 59) (lv := [(0, .inr (.inr 0)), (1, .inl x), (2, .inl y), (3, .inl b), (4, .inl a)]) (rest := []) rfl trivial (re_pointBy (g := g) hB ((g 3 a.toNat) / (n * n)) ((g 3 a.toNat) / n % n) ((g 3 a.toNat) % n) x y ⟨by omega, by omega⟩ ⟨by omega, by omega⟩ ⟨by omega, by omega⟩ ⟨by omega, by omega⟩ ⟨by omega, by omega⟩) ?_
      intro r_1 h_1 e_1; rw [e_1.1, e_1.2]
      refine pg_br 3 (L := []) (P := pg_inR (mt_tg s n ((g 3 a.toNat) / (n * n)) ((g 3 a.toNat) / n % n) ((g 3 a.toNat) % n) x y) ∧ pg_inR b) (c := b ≤ (mt_tg s n ((g 3 a.toNat) / (n * n)) ((g 3 a.toNat) / n % n) ((g 3 a.toNat) % n) x y)) (st1 := (72, [(0, .inr (.inr 0)), (1, .inl x), (2, .inl y), (3, .inl b), (4, .inl a), (5, .inl (mt_tg s n ((g 3 a.toNat) / (n * n)) ((g 3 a.toNat) / n % n) ((g 3 a.toNat) % n) x y))], [], rm (pg_up (pg_up g 0 15 (mt_x s ((g 3 a.toNat) / (n * n)) x y)) 0 16 (mt_y s ((g 3 a.toNat) / (n * n)) x y)) s n)) (st2 := (67, [(0, .inr (.inr 0)), (1, .inl x), (2, .inl y), (3, .inl b), (4, .inl a), (5, .inl (mt_tg s n ((g 3 a.toNat) / (n * n)) ((g 3 a.toNat) / n % n) ((g 3 a.toNat) % n) x y))], [], rm (pg_up (pg_up g 0 15 (mt_x s ((g 3 a.toNat) / (n * n)) x y)) 0 16 (mt_y s ((g 3 a.toNat) / (n * n)) x y)) s n)) rfl trivial ⟨⟨by omega, by omega⟩, ⟨by omega, by omega⟩⟩ (fun c_64_3 => ?_) (fun c_64_3 => ?_)
      · refine pg_go 4 (L := []) (st' := (11, [(0, .inr (.inr 0)), (1, .inl x), (2, .inl y), (3, .inl b), (4, .inl (a + 1)), (5, .inl (mt_tg s n ((g 3 a.toNat) / (n * n)) ((g 3 a.toNat) / n % n) ((g 3 a.toNat) % n) x y))], [], rm (pg_up (pg_up g 0 15 (mt_x s ((g 3 a.toNat) / (n * n)) x y)) 0 16 (mt_y s ((g 3 a.toNat) / (n * n)) x y)) s n)) rfl trivial ?_
        refine pg_pick [0, 1, 2, 3, 4] rfl ?_
        refine ih _ _ _ (by omega) (by omega) (rf_0 (rf_0 hf (by decide) _) (by decide) _) ?_ ?_ (by omega) ?_
        · exact h7
        · exact hS
        · first | (rw [if_pos (by omega)] at hst; rw [← hfm]; exact hst) | (rw [if_neg (by omega)] at hst; exact hst)
      · refine pg_go 5 (L := []) (st' := (11, [(0, .inr (.inr 0)), (1, .inl x), (2, .inl y), (3, .inl (mt_tg s n ((g 3 a.toNat) / (n * n)) ((g 3 a.toNat) / n % n) ((g 3 a.toNat) % n) x y)), (4, .inl (a + 1)), (5, .inl (mt_tg s n ((g 3 a.toNat) / (n * n)) ((g 3 a.toNat) / n % n) ((g 3 a.toNat) % n) x y))], [], rm (pg_up (pg_up g 0 15 (mt_x s ((g 3 a.toNat) / (n * n)) x y)) 0 16 (mt_y s ((g 3 a.toNat) / (n * n)) x y)) s n)) rfl trivial ?_
        refine pg_pick [0, 1, 2, 3, 4] rfl ?_
        refine ih _ _ _ (by omega) (by omega) (rf_0 (rf_0 hf (by decide) _) (by decide) _) ?_ ?_ (by omega) ?_
        · exact h7
        · exact hS
        · first | (rw [if_pos (by omega)] at hst; rw [← hfm]; exact hst) | (rw [if_neg (by omega)] at hst; exact hst)
theorem re_leastOf {g : pg_H} {s n : Int} (hB : rm_B g s n) (hC : ri_C g) (hK : ri_K g s n) (x y : Int) (hx : 0 ≤ x ∧ x < n) (hy : 0 ≤ y ∧ y < n) : pg_Sem false pm_T_leastOf [.inr (.inr 0), .inl x, .inl y] (rm g s n) (fun r h' => r = some (.inl (mt_lo (g 1) s n x y)) ∧ ∃ g', h' = rm g' s n ∧ rf [3] [6, 7, 15, 16] g g' ∧ ri_K g' s n ∧ g' 0 7 = 1) := by
  obtain ⟨hs, hn, hT⟩ := id hB
  obtain ⟨hn1, hn2⟩ := id hn
  have hr := mt_rd_or hs
  have hN := mt_2rn hs hn
  have hcb := pg_cn_bd (mt_sm (g 1) s n) (2 * mt_rd s * (n * n)).toNat
  refine pg_Sem_of pm_T_leastOf_f rfl ?_
  refine pg_ca 1 (L := []) (Mc := pm_T_findSymmetries) (as := [.inr (.inr 0)]) (h0 := rm g s n) (pc := 4) (lv := [(0, .inr (.inr 0)), (1, .inl x), (2, .inl y)]) (rest := []) rfl trivial (re_findSymmetries (g := g) hB hC hK) ?_
  intro r_1 h_1 e_1; obtain ⟨er_, g16, eh_, ef16, e716, hS16⟩ := e_1; rw [er_, eh_]; have hB16 := rm_B_fr hB ef16 (by decide); have hC16 := ri_C_fr hC ef16 (by decide)
  have e1_16 : g16 1 = g 1 := ef16.1 1 (by decide) (by decide)
  refine pg_go 4 (L := []) (st' := (11, [(0, .inr (.inr 0)), (1, .inl x), (2, .inl y), (3, .inl 144), (4, .inl 0)], [], rm g16 s n)) rfl trivial ?_
  exact re_lo_l hB hC hx hy (pg_cn (mt_sm (g 1) s n) (2 * mt_rd s * (n * n)).toNat).toNat _ 144 0 (by omega) (by omega) ef16 e716 hS16 (by omega) ⟨Or.inl rfl, fun m h1 h2 h3 => absurd h3 (by have := pg_cn_bd (mt_sm (g 1) s n) m; omega)⟩
theorem re_least {g : pg_H} {s n : Int} (hB : rm_B g s n) (hC : ri_C g) (hK : ri_K g s n) (x : Int) (hx : pg_inR x) (y : Int) (hy : pg_inR y) : pg_Sem false pm_T_least [.inr (.inr 0), .inl x, .inl y] (rm g s n) (fun r h' => r = some (.inl (mt_lo (g 1) s n (x % n) (y % n))) ∧ ∃ g', h' = rm g' s n ∧ rf [3] [6, 7, 15, 16] g g' ∧ ri_K g' s n ∧ (g 0 7 = 1 → g' 0 7 = 1)) := by
  obtain ⟨hs, hn, hT⟩ := id hB
  obtain ⟨hn1, hn2⟩ := id hn
  have hr := mt_rd_or hs
  obtain ⟨x1, x2⟩ := hx
  obtain ⟨y1, y2⟩ := hy
  refine pg_Sem_of pm_T_least_f rfl ?_
  refine pg_ca 5 (L := [pg_inR x]) (Mc := pm_T_mod) (as := [.inr (.inl x), .inl n]) (h0 := rm g s n) (pc := 10) (lv := [(0, .inr (.inr 0)), (1, .inl x), (2, .inl y)]) (rest := [.inr (.inr 0)]) rfl ⟨by omega, by omega⟩ (re_mod (rm g s n) x n ⟨by omega, by omega⟩ ⟨by omega, by omega⟩) ?_
  intro r_1 h_1 e_1; rw [e_1.1, e_1.2]
  have hm_7 := mt_mod (n := n) (by omega) x
  refine pg_ca 4 (L := [pg_inR y]) (Mc := pm_T_mod) (as := [.inr (.inl y), .inl n]) (h0 := rm g s n) (pc := 19) (lv := [(0, .inr (.inr 0)), (1, .inl x), (2, .inl y)]) (rest := [.inl (x % n), .inr (.inr 0)]) rfl ⟨by omega, by omega⟩ (re_mod (rm g s n) y n ⟨by omega, by omega⟩ ⟨by omega, by omega⟩) ?_
  intro r_1 h_1 e_1; rw [e_1.1, e_1.2]
  have hm_16 := mt_mod (n := n) (by omega) y
  refine pg_ca 0 (L := []) (Mc := pm_T_leastOf) (as := [.inr (.inr 0), .inl (x % n), .inl (y % n)]) (h0 := rm g s n) (pc := 22) (lv := [(0, .inr (.inr 0)), (1, .inl x), (2, .inl y)]) (rest := []) rfl trivial (re_leastOf (g := g) hB hC hK (x % n) (y % n) ⟨by omega, by omega⟩ ⟨by omega, by omega⟩) ?_
  intro r_1 h_1 e_1; obtain ⟨er_, g17, eh_, ef17, hK17, h717⟩ := e_1; rw [er_, eh_]; have hB17 := rm_B_fr hB ef17 (by decide); have hC17 := ri_C_fr hC ef17 (by decide); have hlb17 := mt_lo_bd (g 1) s n (x % n) (y % n)
  refine pg_re 0 (L := []) (r := some (.inl (mt_lo (g 1) s n (x % n) (y % n)))) (h0 := rm g17 s n) rfl trivial ?_
  exact ⟨rfl, _, rfl, ef17, hK17, fun _ => h717⟩
set_option maxHeartbeats 4000000 in
theorem re_orb_l {g0 : pg_H} {s n : Int} (hB0 : rm_B g0 s n) (hC0 : ri_C g0) {x y b : Int} (hb : 0 ≤ b ∧ b ≤ 144) : ∀ (d : Nat) (g : pg_H) (f a : Int) (hd : a + (d : Int) = n * n) (ha : 0 ≤ a) (hf : rf [3] [6, 7, 15, 16] g0 g) (hK : ri_K g s n) (h7i : g0 0 7 = 1 → g 0 7 = 1) (hF : f = pg_cn (fun j => mt_lo (g0 1) s n ((j : Int) % n) ((j : Int) / n) = b) a.toNat), pg_Good false pm_T_orbit (fun r h' => r = some (.inl (pg_cn (fun j => mt_lo (g0 1) s n ((j : Int) % n) ((j : Int) / n) = b) (n * n).toNat)) ∧ ∃ g', h' = rm g' s n ∧ rf [3] [6, 7, 15, 16] g0 g' ∧ ri_K g' s n ∧ (g0 0 7 = 1 → g' 0 7 = 1)) (29, [(0, .inr (.inr 0)), (1, .inl x), (2, .inl y), (3, .inl b), (4, .inl f), (5, .inl a)], [], rm g s n) := by
  intro d
  induction d with
  | zero =>
    intro g f a hd ha hf hK h7i hF
    have hB := rm_B_fr hB0 hf (by decide)
    have hC := ri_C_fr hC0 hf (by decide)
    obtain ⟨hs, hn, -⟩ := id hB
    obtain ⟨hn1, hn2⟩ := id hn
    have hr := mt_rd_or hs
    have e1 : g 1 = g0 1 := hf.1 1 (by decide) (by decide)
    have hnn := mt_nn hn1 hn2
    refine pg_br 6 (L := []) (P := pg_inR a ∧ pg_inR (n * n)) (c := (n * n) ≤ a) (st1 := (82, [(0, .inr (.inr 0)), (1, .inl x), (2, .inl y), (3, .inl b), (4, .inl f), (5, .inl a)], [], rm g s n)) (st2 := (43, [(0, .inr (.inr 0)), (1, .inl x), (2, .inl y), (3, .inl b), (4, .inl f), (5, .inl a)], [], rm g s n)) rfl trivial ⟨⟨by omega, by omega⟩, ⟨by omega, by omega⟩⟩ (fun c_40_1 => ?_) (fun c_40_1 => ?_)
    · refine pg_re 1 (L := []) (r := some (.inl f)) (h0 := rm g s n) rfl trivial ?_
      refine ⟨?_, g, rfl, hf, hK, h7i⟩
      rw [hF, show n * n = a by omega]
    · exact (by exfalso; omega)
  | succ d ih =>
    intro g f a hd ha hf hK h7i hF
    have hB := rm_B_fr hB0 hf (by decide)
    have hC := ri_C_fr hC0 hf (by decide)
    obtain ⟨hs, hn, -⟩ := id hB
    obtain ⟨hn1, hn2⟩ := id hn
    have hr := mt_rd_or hs
    have e1 : g 1 = g0 1 := hf.1 1 (by decide) (by decide)
    have hnn := mt_nn hn1 hn2
    have et := pg_tmod_nn (y := n) ha
    have ed := pg_tdiv_nn (y := n) ha
    have h1 := mt_mod hn1 a
    have h2 := mt_row_bd hn1 (show 0 ≤ a ∧ a < n * n by omega)
    have ek : (a + 1).toNat = a.toNat + 1 := by omega
    have ek2 : ((a.toNat : Nat) : Int) = a := by omega
    have hlq := mt_lo_bd (g0 1) s n (Int.tmod a n) (Int.tdiv a n)
    have hlr := pg_cn_bd (fun j => mt_lo (g0 1) s n ((j : Int) % n) ((j : Int) / n) = b) a.toNat
    refine pg_br 6 (L := []) (P := pg_inR a ∧ pg_inR (n * n)) (c := (n * n) ≤ a) (st1 := (82, [(0, .inr (.inr 0)), (1, .inl x), (2, .inl y), (3, .inl b), (4, .inl f), (5, .inl a)], [], rm g s n)) (st2 := (43, [(0, .inr (.inr 0)), (1, .inl x), (2, .inl y), (3, .inl b), (4, .inl f), (5, .inl a)], [], rm g s n)) rfl trivial ⟨⟨by omega, by omega⟩, ⟨by omega, by omega⟩⟩ (fun c_40_2 => ?_) (fun c_40_2 => ?_)
    · exact (by exfalso; omega)
    · refine pg_ca 9 (L := [n ≠ 0 ∧ pg_inR a ∧ pg_inR n, n ≠ 0 ∧ pg_inR a ∧ pg_inR n]) (Mc := pm_T_leastOf) (as := [.inr (.inr 0), .inl (Int.tmod a n), .inl (Int.tdiv a n)]) (h0 := rm g s n) (pc := 61) (lv := [(0, .inr (.inr 0)), (1, .inl x), (2, .inl y), (3, .inl b), (4, .inl f), (5, .inl a)]) (rest := []) rfl ⟨⟨by omega, ⟨by omega, by omega⟩, ⟨by omega, by omega⟩⟩, ⟨by omega, ⟨by omega, by omega⟩, ⟨by omega, by omega⟩⟩⟩ (re_leastOf (g := g) hB hC hK (Int.tmod a n) (Int.tdiv a n) ⟨by omega, by omega⟩ ⟨by omega, by omega⟩) ?_
      intro r_1 h_1 e_1; obtain ⟨er_, g18, eh_, ef18, hK18, h718⟩ := e_1; rw [e1] at er_; rw [er_, eh_]; have hB18 := rm_B_fr hB ef18 (by decide); have hC18 := ri_C_fr hC ef18 (by decide); have hlb18 := mt_lo_bd (g0 1) s n (Int.tmod a n) (Int.tdiv a n)
      refine pg_br 1 (L := []) (P := pg_inR (mt_lo (g0 1) s n (Int.tmod a n) (Int.tdiv a n)) ∧ pg_inR b) (c := ¬ (mt_lo (g0 1) s n (Int.tmod a n) (Int.tdiv a n)) = b) (st1 := (72, [(0, .inr (.inr 0)), (1, .inl x), (2, .inl y), (3, .inl b), (4, .inl f), (5, .inl a)], [], rm g18 s n)) (st2 := (65, [(0, .inr (.inr 0)), (1, .inl x), (2, .inl y), (3, .inl b), (4, .inl f), (5, .inl a)], [], rm g18 s n)) rfl trivial ⟨⟨by omega, by omega⟩, ⟨by omega, by omega⟩⟩ (fun c_62_3 => ?_) (fun c_62_3 => ?_)
      · refine pg_go 4 (L := []) (st' := (29, [(0, .inr (.inr 0)), (1, .inl x), (2, .inl y), (3, .inl b), (4, .inl f), (5, .inl (a + 1))], [], rm g18 s n)) rfl trivial ?_
        refine ih _ _ _ (by omega) (by omega) (rf_tr hf ef18 (by decide) (by decide)) hK18 (fun _ => h718) ?_
        rw [ek]
        simp only [pg_cn]
        rw [ek2, ← et, ← ed]
        first | (rw [pg_b_t (by omega), hF]; done) | (rw [pg_b_f (by omega), hF]; omega)
      · refine pg_go 7 (L := []) (st' := (29, [(0, .inr (.inr 0)), (1, .inl x), (2, .inl y), (3, .inl b), (4, .inl (f + 1)), (5, .inl (a + 1))], [], rm g18 s n)) rfl trivial ?_
        refine ih _ _ _ (by omega) (by omega) (rf_tr hf ef18 (by decide) (by decide)) hK18 (fun _ => h718) ?_
        rw [ek]
        simp only [pg_cn]
        rw [ek2, ← et, ← ed]
        first | (rw [pg_b_t (by omega), hF]; done) | (rw [pg_b_f (by omega), hF]; omega)
theorem re_orbit {g : pg_H} {s n : Int} (hB : rm_B g s n) (hC : ri_C g) (hK : ri_K g s n) (x : Int) (hx : pg_inR x) (y : Int) (hy : pg_inR y) : pg_Sem false pm_T_orbit [.inr (.inr 0), .inl x, .inl y] (rm g s n) (fun r h' => r = some (.inl (pg_cn (fun j => mt_lo (g 1) s n ((j : Int) % n) ((j : Int) / n) = mt_lo (g 1) s n (x % n) (y % n)) (n * n).toNat)) ∧ ∃ g', h' = rm g' s n ∧ rf [3] [6, 7, 15, 16] g g' ∧ ri_K g' s n ∧ (g 0 7 = 1 → g' 0 7 = 1)) := by
  obtain ⟨hs, hn, hT⟩ := id hB
  obtain ⟨hn1, hn2⟩ := id hn
  have hr := mt_rd_or hs
  obtain ⟨x1, x2⟩ := hx
  obtain ⟨y1, y2⟩ := hy
  have hnn := mt_nn hn1 hn2
  have hlq := mt_lo_bd (g 1) s n (x % n) (y % n)
  refine pg_Sem_of pm_T_orbit_f rfl ?_
  refine pg_ca 5 (L := [pg_inR x]) (Mc := pm_T_mod) (as := [.inr (.inl x), .inl n]) (h0 := rm g s n) (pc := 10) (lv := [(0, .inr (.inr 0)), (1, .inl x), (2, .inl y)]) (rest := [.inr (.inr 0)]) rfl ⟨by omega, by omega⟩ (re_mod (rm g s n) x n ⟨by omega, by omega⟩ ⟨by omega, by omega⟩) ?_
  intro r_1 h_1 e_1; rw [e_1.1, e_1.2]
  have hm_7 := mt_mod (n := n) (by omega) x
  refine pg_ca 4 (L := [pg_inR y]) (Mc := pm_T_mod) (as := [.inr (.inl y), .inl n]) (h0 := rm g s n) (pc := 19) (lv := [(0, .inr (.inr 0)), (1, .inl x), (2, .inl y)]) (rest := [.inl (x % n), .inr (.inr 0)]) rfl ⟨by omega, by omega⟩ (re_mod (rm g s n) y n ⟨by omega, by omega⟩ ⟨by omega, by omega⟩) ?_
  intro r_1 h_1 e_1; rw [e_1.1, e_1.2]
  have hm_16 := mt_mod (n := n) (by omega) y
  refine pg_ca 0 (L := []) (Mc := pm_T_leastOf) (as := [.inr (.inr 0), .inl (x % n), .inl (y % n)]) (h0 := rm g s n) (pc := 22) (lv := [(0, .inr (.inr 0)), (1, .inl x), (2, .inl y)]) (rest := []) rfl trivial (re_leastOf (g := g) hB hC hK (x % n) (y % n) ⟨by omega, by omega⟩ ⟨by omega, by omega⟩) ?_
  intro r_1 h_1 e_1; obtain ⟨er_, g19, eh_, ef19, hK19, h719⟩ := e_1; rw [er_, eh_]; have hB19 := rm_B_fr hB ef19 (by decide); have hC19 := ri_C_fr hC ef19 (by decide); have hlb19 := mt_lo_bd (g 1) s n (x % n) (y % n)
  refine pg_go 5 (L := []) (st' := (29, [(0, .inr (.inr 0)), (1, .inl x), (2, .inl y), (3, .inl (mt_lo (g 1) s n (x % n) (y % n))), (4, .inl 0), (5, .inl 0)], [], rm g19 s n)) rfl trivial ?_
  have e1 : g19 1 = g 1 := ef19.1 1 (by decide) (by decide)
  refine po_st_mono (re_orb_l hB19 hC19 (b := mt_lo (g 1) s n (x % n) (y % n)) (by omega) (n * n).toNat g19 0 0 (by omega) (by omega) (rf_rf _ _ _) hK19 id rfl) (fun r_ h_ hq => ?_)
  rw [e1] at hq
  obtain ⟨q1, g3, q2, q3, q4⟩ := hq
  exact ⟨q1, g3, q2, rf_tr ef19 q3 (by decide) (by decide), q4.1, fun _ => q4.2 h719⟩
