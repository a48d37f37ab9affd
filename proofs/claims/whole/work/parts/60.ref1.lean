/-! the reference: its object; small methods -/
/-- the reference's heap: sort s, size n, the rest from g -/
def rm (g : pg_H) (s n : Int) : pg_H := pg_up (pg_up g 0 0 s) 0 1 n
theorem rm_at (g : pg_H) (s n : Int) {q : Nat} (hq : q ≠ 0) : rm g s n q = g q := by
  unfold rm
  rw [pg_up_ne _ _ _ hq, pg_up_ne _ _ _ hq]
theorem rm_at0 (g : pg_H) (s n : Int) (j : Nat) : rm g s n 0 j = if j = 1 then n else if j = 0 then s else g 0 j := by
  unfold rm
  rw [pg_up_at, pg_up_at]
theorem rm_upq {g : pg_H} {s n : Int} {q i : Nat} {v : Int} (hq : q ≠ 0) : pg_up (rm g s n) q i v = rm (pg_up g q i v) s n := by
  funext q' j
  by_cases h : q' = q
  · subst h
    rw [rm_at _ _ _ hq, pg_up_at, pg_up_at, rm_at _ _ _ hq]
  · rw [pg_up_ne _ _ _ h]
    by_cases h0 : q' = 0
    · subst h0
      rw [rm_at0, rm_at0, pg_up_ne _ _ _ h]
    · rw [rm_at _ _ _ h0, rm_at _ _ _ h0, pg_up_ne _ _ _ h]
theorem rm_up0 {g : pg_H} {s n : Int} {i : Nat} {v : Int} (h0 : i ≠ 0) (h1 : i ≠ 1) : pg_up (rm g s n) 0 i v = rm (pg_up g 0 i v) s n := by
  funext q' j
  by_cases h : q' = 0
  · subst h
    rw [rm_at0, pg_up_at, pg_up_at, rm_at0]
    by_cases hj : j = i
    · subst hj
      simp [h0, h1]
    · simp [hj]
  · rw [pg_up_ne _ _ _ h, rm_at _ _ _ h, rm_at _ _ _ h, pg_up_ne _ _ _ h]
theorem rm_u0 {g : pg_H} {s n v : Int} : pg_up (rm g s n) 0 0 v = rm g v n := by
  funext q' j
  by_cases h : q' = 0
  · subst h
    rw [rm_at0, pg_up_at, rm_at0]
    by_cases hj : j = 0
    · subst hj
      simp
    · simp [hj]
  · rw [pg_up_ne _ _ _ h, rm_at _ _ _ h, rm_at _ _ _ h]
theorem rm_u1 {g : pg_H} {s n v : Int} : pg_up (rm g s n) 0 1 v = rm g s v := by
  funext q' j
  by_cases h : q' = 0
  · subst h
    rw [rm_at0, pg_up_at, rm_at0]
    by_cases hj : j = 1
    · subst hj
      simp
    · simp [hj]
  · rw [pg_up_ne _ _ _ h, rm_at _ _ _ h, rm_at _ _ _ h]
/-- a heap as another but for some rows, and some fields of the object -/
def rf (cs fs : List Nat) (g g' : pg_H) : Prop := (∀ q, q ≠ 0 → q ∉ cs → g' q = g q) ∧ ∀ j, j ∉ fs → g' 0 j = g 0 j
theorem rf_rf (cs fs : List Nat) (g : pg_H) : rf cs fs g g := ⟨fun _ _ _ => rfl, fun _ _ => rfl⟩
theorem rf_q {cs fs : List Nat} {g g' : pg_H} (hf : rf cs fs g g') {q : Nat} (h0 : q ≠ 0) (hq : q ∈ cs) (i : Nat) (v : Int) : rf cs fs g (pg_up g' q i v) := by
  refine ⟨fun q' h hn => ?_, fun j hj => ?_⟩
  · rw [pg_up_ne _ _ _ (fun e => hn (by rw [e]; exact hq))]
    exact hf.1 q' h hn
  · rw [pg_up_ne _ _ _ (fun e => h0 e.symm)]
    exact hf.2 j hj
theorem rf_0 {cs fs : List Nat} {g g' : pg_H} (hf : rf cs fs g g') {i : Nat} (hi : i ∈ fs) (v : Int) : rf cs fs g (pg_up g' 0 i v) := by
  refine ⟨fun q' h hn => ?_, fun j hj => ?_⟩
  · rw [pg_up_ne _ _ _ h]
    exact hf.1 q' h hn
  · rw [pg_up_at, if_neg (fun e => hj (by rw [e]; exact hi))]
    exact hf.2 j hj
theorem rf_tr {cs fs cs' fs' : List Nat} {g g' g'' : pg_H} (hf : rf cs fs g g') (hg : rf cs' fs' g' g'') (h1 : ∀ q ∈ cs', q ∈ cs) (h2 : ∀ q ∈ fs', q ∈ fs) : rf cs fs g g'' := by
  refine ⟨fun q h hn => ?_, fun j hj => ?_⟩
  · rw [hg.1 q h (fun hm => hn (h1 q hm)), hf.1 q h hn]
  · rw [hg.2 j (fun hm => hj (h2 j hm)), hf.2 j hj]
theorem rf_w {cs fs cs' fs' : List Nat} {g g' : pg_H} (hg : rf cs' fs' g g') (h1 : ∀ q ∈ cs', q ∈ cs) (h2 : ∀ q ∈ fs', q ∈ fs) : rf cs fs g g' := rf_tr (rf_rf cs fs g) hg h1 h2
/-- the reference's numbers of the LINEARS -/
def rm_T (g : pg_H) (s : Int) (m : Int) : Prop := ∀ k : Nat, (k : Int) < m → g 9 k = mt_e s (4 * k) ∧ g 10 k = mt_e s (4 * k + 2) ∧ g 11 k = mt_e s (4 * k + 1) ∧ g 12 k = mt_e s (4 * k + 3)
def rm_B (g : pg_H) (s n : Int) : Prop := (s = 0 ∨ s = 1) ∧ (1 ≤ n ∧ n ≤ 12) ∧ rm_T g s (2 * mt_rd s)
theorem rm_B_fr {cs fs : List Nat} {g g' : pg_H} {s n : Int} (hB : rm_B g s n) (hf : rf cs fs g g') (h : 9 ∉ cs ∧ 10 ∉ cs ∧ 11 ∉ cs ∧ 12 ∉ cs) : rm_B g' s n := by
  refine ⟨hB.1, hB.2.1, fun k hk => ?_⟩
  rw [hf.1 9 (by decide) h.1, hf.1 10 (by decide) h.2.1, hf.1 11 (by decide) h.2.2.1, hf.1 12 (by decide) h.2.2.2]
  exact hB.2.2 k hk
theorem rm_B_up {g : pg_H} {s n : Int} {q i : Nat} {v : Int} (hB : rm_B g s n) (h : q ≠ 9 ∧ q ≠ 10 ∧ q ≠ 11 ∧ q ≠ 12) : rm_B (pg_up g q i v) s n := by
  refine ⟨hB.1, hB.2.1, fun k hk => ?_⟩
  rw [pg_up_ne _ _ _ (fun e => h.1 e.symm), pg_up_ne _ _ _ (fun e => h.2.1 e.symm), pg_up_ne _ _ _ (fun e => h.2.2.1 e.symm), pg_up_ne _ _ _ (fun e => h.2.2.2 e.symm)]
  exact hB.2.2 k hk
theorem pg_cmp_or (x y : Int) : (pg_cmp x y = 1 ∧ y < x) ∨ (pg_cmp x y = 0 ∧ x = y) ∨ (pg_cmp x y = -1 ∧ x < y) := by
  unfold pg_cmp
  by_cases h1 : y < x
  · rw [if_pos h1]; exact Or.inl ⟨rfl, h1⟩
  · rw [if_neg h1]
    by_cases h2 : x = y
    · rw [if_pos h2]; exact Or.inr (Or.inl ⟨rfl, h2⟩)
    · rw [if_neg h2]; exact Or.inr (Or.inr ⟨rfl, by omega⟩)
theorem pg_mul_e {s : Int} {j : Nat} {x m : Int} (hx : -m ≤ x ∧ x ≤ m) : -m ≤ mt_e s j * x ∧ mt_e s j * x ≤ m := mt_ex_bd hx
theorem mt_cd_e (n k u v : Int) : n * n * k + n * (u % n) + v % n = mt_cd n k u v := by
  unfold mt_cd
  grind
theorem rm_2x (g : pg_H) (s n a b c d : Int) : pg_up (pg_up (rm (pg_up (pg_up g 0 15 a) 0 16 b) s n) 0 15 c) 0 16 d = rm (pg_up (pg_up g 0 15 c) 0 16 d) s n := by
  rw [rm_up0 (by decide) (by decide), rm_up0 (by decide) (by decide)]
  congr 1
  funext q j
  by_cases h : q = 0
  · subst h
    simp only [pg_up_at]
    by_cases h1 : j = 16
    · simp [h1]
    · by_cases h2 : j = 15
      · simp [h2]
      · simp [h1, h2]
  · simp only [pg_up_ne _ _ _ h]
theorem re_fl_s {g : pg_H} {s k : Int} (hs : s = 0 ∨ s = 1) (hk : 0 ≤ k ∧ k < 2 * mt_rd s) (hM : rm_T g s k) {a b c d : Int} : rm_T (pg_up (pg_up (pg_up (pg_up (pg_up (pg_up (pg_up (pg_up g 0 15 a) 0 16 b) 9 k.toNat (mt_cl s k 1 0).1) 10 k.toNat (mt_cl s k 1 0).2) 0 15 c) 0 16 d) 11 k.toNat (mt_cl s k 0 1).1) 12 k.toNat (mt_cl s k 0 1).2) s (k + 1) := by
  intro j hj
  obtain ⟨h1, h2⟩ := mt_cl_ok hs hk
  rw [h1, h2]
  have e9 : ∀ (G : pg_H) (q q' i : Nat) (z : Int), q' ≠ q → pg_up G q i z q' j = G q' j := fun G q q' i z h => by rw [pg_up_ne _ _ _ h]
  rw [e9 _ 12 9 _ _ (by decide), e9 _ 11 9 _ _ (by decide), e9 _ 0 9 _ _ (by decide), e9 _ 0 9 _ _ (by decide), e9 _ 10 9 _ _ (by decide), pg_up_at, e9 _ 0 9 _ _ (by decide), e9 _ 0 9 _ _ (by decide)]
  rw [e9 _ 12 10 _ _ (by decide), e9 _ 11 10 _ _ (by decide), e9 _ 0 10 _ _ (by decide), e9 _ 0 10 _ _ (by decide), pg_up_at, e9 _ 9 10 _ _ (by decide), e9 _ 0 10 _ _ (by decide), e9 _ 0 10 _ _ (by decide)]
  rw [e9 _ 12 11 _ _ (by decide), pg_up_at, e9 _ 0 11 _ _ (by decide), e9 _ 0 11 _ _ (by decide), e9 _ 10 11 _ _ (by decide), e9 _ 9 11 _ _ (by decide), e9 _ 0 11 _ _ (by decide), e9 _ 0 11 _ _ (by decide)]
  rw [pg_up_at, e9 _ 11 12 _ _ (by decide), e9 _ 0 12 _ _ (by decide), e9 _ 0 12 _ _ (by decide), e9 _ 10 12 _ _ (by decide), e9 _ 9 12 _ _ (by decide), e9 _ 0 12 _ _ (by decide), e9 _ 0 12 _ _ (by decide)]
  by_cases hc : j = k.toNat
  · rw [if_pos hc, if_pos hc, if_pos hc, if_pos hc, show 4 * j = (4 * k).toNat by omega, show (4 * k).toNat + 1 = (4 * k + 1).toNat by omega, show (4 * k).toNat + 2 = (4 * k + 2).toNat by omega, show (4 * k).toNat + 3 = (4 * k + 3).toNat by omega]
    exact ⟨rfl, rfl, rfl, rfl⟩
  · rw [if_neg hc, if_neg hc, if_neg hc, if_neg hc]
    exact hM j (by omega)
theorem re_isIn (h : pg_H) (v a b : Int) (hv : pg_inL v) (ha : pg_inL a) (hb : pg_inL b) : pg_Sem false pm_T_isIn [.inr (.inl v), .inr (.inl a), .inr (.inl b)] h (fun r h' => r = some (.inl (if a ≤ v ∧ v ≤ b then 1 else 0)) ∧ h' = h) := by
  obtain ⟨v1, v2⟩ := hv
  obtain ⟨a1, a2⟩ := ha
  obtain ⟨b1, b2⟩ := hb
  have c1 := pg_cmp_or v a
  have c2 := pg_cmp_or v b
  refine pg_Sem_of pm_T_isIn_f rfl ?_
  refine pg_br 3 (L := [pg_inL v ∧ pg_inL a]) (P := pg_inR (pg_cmp v a)) (c := (pg_cmp v a) < 0) (st1 := (17, [(0, .inr (.inl v)), (2, .inr (.inl a)), (4, .inr (.inl b))], [], h)) (st2 := (6, [(0, .inr (.inl v)), (2, .inr (.inl a)), (4, .inr (.inl b))], [], h)) rfl ⟨⟨by omega, by omega⟩, ⟨by omega, by omega⟩⟩ ⟨by omega, by omega⟩ (fun c_3_1 => ?_) (fun c_3_1 => ?_)
  · refine pg_re 1 (L := [0 = 0 ∨ 0 = 1]) (r := some (.inl 0)) (h0 := h) rfl (Or.inl rfl) ?_
    refine ⟨?_, rfl⟩
    first | rw [if_pos (by omega)] | rw [if_neg (by omega)]
  · refine pg_br 3 (L := [pg_inL v ∧ pg_inL b]) (P := pg_inR (pg_cmp v b)) (c := 0 < (pg_cmp v b)) (st1 := (17, [(0, .inr (.inl v)), (2, .inr (.inl a)), (4, .inr (.inl b))], [], h)) (st2 := (13, [(0, .inr (.inl v)), (2, .inr (.inl a)), (4, .inr (.inl b))], [], h)) rfl ⟨⟨by omega, by omega⟩, ⟨by omega, by omega⟩⟩ ⟨by omega, by omega⟩ (fun c_10_2 => ?_) (fun c_10_2 => ?_)
    · refine pg_re 1 (L := [0 = 0 ∨ 0 = 1]) (r := some (.inl 0)) (h0 := h) rfl (Or.inl rfl) ?_
      refine ⟨?_, rfl⟩
      first | rw [if_pos (by omega)] | rw [if_neg (by omega)]
    · refine pg_re 2 (L := [1 = 0 ∨ 1 = 1]) (r := some (.inl 1)) (h0 := h) rfl (Or.inr rfl) ?_
      refine ⟨?_, rfl⟩
      first | rw [if_pos (by omega)] | rw [if_neg (by omega)]
theorem re_mod (h : pg_H) (x m : Int) (hx : pg_inL x) (hm : 1 ≤ m ∧ m ≤ 1000) : pg_Sem false pm_T_mod [.inr (.inl x), .inl m] h (fun r h' => r = some (.inl (x % m)) ∧ h' = h) := by
  obtain ⟨x1, x2⟩ := hx
  obtain ⟨t1, t2⟩ := pg_tm (x := x) (y := m) (by omega)
  have hem := pg_em (x := x) (y := m) (by omega)
  refine pg_Sem_of pm_T_mod_f rfl ?_
  refine pg_br 7 (L := [pg_inR m, m ≠ 0 ∧ pg_inL x ∧ pg_inL m]) (P := pg_inR (Int.tmod x m)) (c := 0 ≤ (Int.tmod x m)) (st1 := (16, [(0, .inr (.inl x)), (2, .inl m), (3, .inl (Int.tmod x m))], [], h)) (st2 := (10, [(0, .inr (.inl x)), (2, .inl m), (3, .inl (Int.tmod x m))], [], h)) rfl ⟨⟨by omega, by omega⟩, ⟨by omega, ⟨by omega, by omega⟩, ⟨by omega, by omega⟩⟩⟩ ⟨by omega, by omega⟩ (fun c_7_1 => ?_) (fun c_7_1 => ?_)
  · refine pg_re 1 (L := []) (r := some (.inl (Int.tmod x m))) (h0 := h) rfl trivial ?_
    refine ⟨?_, rfl⟩
    rw [hem]
    first | rw [if_pos (by omega)] | rw [if_neg (by omega)]
  · refine pg_re 4 (L := []) (r := some (.inl ((Int.tmod x m) + m))) (h0 := h) rfl trivial ?_
    refine ⟨?_, rfl⟩
    rw [hem]
    first | rw [if_pos (by omega)] | rw [if_neg (by omega)]
theorem re_round {g : pg_H} {s n : Int} (hs : s = 0 ∨ s = 1) : pg_Sem false pm_T_round [.inr (.inr 0)] (rm g s n) (fun r h' => r = some (.inl (mt_rd s)) ∧ h' = rm g s n) := by
  have hr := mt_rd_or hs
  refine pg_Sem_of pm_T_round_f rfl ?_
  refine pg_br 2 (L := []) (P := pg_inR s) (c := ¬ s = 0) (st1 := (11, [(0, .inr (.inr 0))], [], rm g s n)) (st2 := (7, [(0, .inr (.inr 0))], [], rm g s n)) rfl trivial ⟨by omega, by omega⟩ (fun c_4_1 => ?_) (fun c_4_1 => ?_)
  · refine pg_re 1 (L := []) (r := some (.inl 6)) (h0 := rm g s n) rfl trivial ?_
    refine ⟨?_, rfl⟩
    congr 2
    first | (show (4 : Int) = mt_rd s; omega) | (show (6 : Int) = mt_rd s; omega)
  · refine pg_re 2 (L := []) (r := some (.inl 4)) (h0 := rm g s n) rfl trivial ?_
    refine ⟨?_, rfl⟩
    congr 2
    first | (show (4 : Int) = mt_rd s; omega) | (show (6 : Int) = mt_rd s; omega)
theorem re_at {g : pg_H} {s n : Int} (hn : 1 ≤ n ∧ n ≤ 12) (x y : Int) (hx : pg_inL x) (hy : pg_inL y) : pg_Sem false pm_T_at [.inr (.inr 0), .inr (.inl x), .inr (.inl y)] (rm g s n) (fun r h' => r = some (.inl (mt_pt n (x % n) (y % n))) ∧ h' = rm g s n) := by
  obtain ⟨x1, x2⟩ := hx
  obtain ⟨y1, y2⟩ := hy
  refine pg_Sem_of pm_T_at_f rfl ?_
  refine pg_ca 5 (L := []) (Mc := pm_T_mod) (as := [.inr (.inl y), .inl n]) (h0 := rm g s n) (pc := 12) (lv := [(0, .inr (.inr 0)), (1, .inr (.inl x)), (3, .inr (.inl y))]) (rest := [.inl n]) rfl trivial (re_mod (rm g s n) y n ⟨by omega, by omega⟩ ⟨by omega, by omega⟩) ?_
  intro r_1 h_1 e_1; rw [e_1.1, e_1.2]
  have hm_9 := mt_mod (n := n) (by omega) y
  refine pg_ca 4 (L := []) (Mc := pm_T_mod) (as := [.inr (.inl x), .inl n]) (h0 := rm g s n) (pc := 21) (lv := [(0, .inr (.inr 0)), (1, .inr (.inl x)), (3, .inr (.inl y))]) (rest := [.inl (n * (y % n))]) rfl trivial (re_mod (rm g s n) x n ⟨by omega, by omega⟩ ⟨by omega, by omega⟩) ?_
  intro r_1 h_1 e_1; rw [e_1.1, e_1.2]
  have hm_18 := mt_mod (n := n) (by omega) x
  refine pg_re 1 (L := []) (r := some (.inl ((n * (y % n)) + (x % n)))) (h0 := rm g s n) rfl trivial ?_
  refine ⟨?_, rfl⟩
  unfold mt_pt
  rw [Int.mul_comm]
theorem re_changed {g : pg_H} {s n : Int} : pg_Sem false pm_T_changed [.inr (.inr 0)] (rm g s n) (fun r h' => r = none ∧ h' = rm (pg_up (pg_up g 0 7 0) 0 8 0) s n) := by
  refine pg_Sem_of pm_T_changed_f rfl ?_
  refine pg_go 6 (L := [0 = 0 ∨ 0 = 1, 0 = 0 ∨ 0 = 1]) (st' := (10, [(0, .inr (.inr 0))], [], pg_up (pg_up (rm g s n) 0 7 0) 0 8 0)) rfl ⟨Or.inl rfl, Or.inl rfl⟩ ?_
  rw [rm_up0 (i := 7) (by decide) (by decide), rm_up0 (i := 8) (by decide) (by decide)]
  refine pg_re 0 (L := []) (r := none) (h0 := rm (pg_up (pg_up g 0 7 0) 0 8 0) s n) rfl trivial ?_
  exact ⟨rfl, rfl⟩
theorem re_colour {g : pg_H} {s n : Int} (hn : 1 ≤ n ∧ n ≤ 12) (x y : Int) (hx : pg_inR x) (hy : pg_inR y) : pg_Sem false pm_T_colour [.inr (.inr 0), .inl x, .inl y] (rm g s n) (fun r h' => r = some (.inl (g 1 (mt_pt n (x % n) (y % n)).toNat)) ∧ h' = rm g s n) := by
  obtain ⟨x1, x2⟩ := hx
  obtain ⟨y1, y2⟩ := hy
  have hpt := mt_pt_bd hn.1 hn.2 (mt_mod hn.1 x) (mt_mod hn.1 y)
  refine pg_Sem_of pm_T_colour_f rfl ?_
  refine pg_ca 7 (L := [pg_inR x, pg_inR y]) (Mc := pm_T_at) (as := [.inr (.inr 0), .inr (.inl x), .inr (.inl y)]) (h0 := rm g s n) (pc := 12) (lv := [(0, .inr (.inr 0)), (1, .inl x), (2, .inl y)]) (rest := [.inr (.inr 1)]) rfl ⟨⟨by omega, by omega⟩, ⟨by omega, by omega⟩⟩ (re_at (g := g) (s := s) hn x y ⟨by omega, by omega⟩ ⟨by omega, by omega⟩) ?_
  intro r_1 h_1 e_1; rw [e_1.1, e_1.2]
  refine pg_re 1 (L := [0 ≤ (mt_pt n (x % n) (y % n)) ∧ (mt_pt n (x % n) (y % n)) < (144 : Int)]) (r := some (.inl (g 1 ((mt_pt n (x % n) (y % n)).toNat)))) (h0 := rm g s n) rfl ⟨by omega, by omega⟩ ?_
  exact ⟨rfl, rfl⟩
theorem re_map {g : pg_H} {s n : Int} (hB : rm_B g s n) (k x y : Int) (hk : 0 ≤ k ∧ k < 2 * mt_rd s) : pg_Sem false pm_T_map [.inr (.inr 0), .inl k, .inr (.inl x), .inr (.inl y)] (rm g s n) (fun r h' => r = none ∧ h' = rm (pg_up (pg_up g 0 15 (mt_x s k x y)) 0 16 (mt_y s k x y)) s n) := by
  obtain ⟨hs, hn, hT⟩ := id hB
  obtain ⟨hn1, hn2⟩ := id hn
  have hr := mt_rd_or hs
  obtain ⟨t1, t2, t3, t4⟩ := hT k.toNat (by omega)
  have e1 : 4 * k.toNat = (4 * k).toNat := by omega
  have e2 : 4 * k.toNat + 1 = (4 * k + 1).toNat := by omega
  have e3 : 4 * k.toNat + 2 = (4 * k + 2).toNat := by omega
  have e4 : 4 * k.toNat + 3 = (4 * k + 3).toNat := by omega
  have b1 := mt_e_bd s (4 * k.toNat)
  have b2 := mt_e_bd s (4 * k.toNat + 1)
  have b3 := mt_e_bd s (4 * k.toNat + 2)
  have b4 := mt_e_bd s (4 * k.toNat + 3)
  refine pg_Sem_of pm_T_map_f rfl ?_
  refine pg_go 34 (L := [0 ≤ k ∧ k < (12 : Int), pg_inR (g 9 k.toNat), 0 ≤ k ∧ k < (12 : Int), pg_inR (g 11 k.toNat), 0 ≤ k ∧ k < (12 : Int), pg_inR (g 10 k.toNat), 0 ≤ k ∧ k < (12 : Int), pg_inR (g 12 k.toNat)]) (st' := (48, [(0, .inr (.inr 0)), (1, .inl k), (2, .inr (.inl x)), (4, .inr (.inl y))], [], pg_up (pg_up (rm g s n) 0 15 (((g 9 k.toNat) * x) + ((g 11 k.toNat) * y))) 0 16 (((g 10 k.toNat) * x) + ((g 12 k.toNat) * y)))) rfl ⟨⟨by omega, by omega⟩, ⟨by omega, by omega⟩, ⟨by omega, by omega⟩, ⟨by omega, by omega⟩, ⟨by omega, by omega⟩, ⟨by omega, by omega⟩, ⟨by omega, by omega⟩, ⟨by omega, by omega⟩⟩ ?_
  rw [rm_up0 (i := 15) (by decide) (by decide), rm_up0 (i := 16) (by decide) (by decide)]
  refine pg_re 0 (L := []) (r := none) (h0 := rm (pg_up (pg_up g 0 15 (((g 9 k.toNat) * x) + ((g 11 k.toNat) * y))) 0 16 (((g 10 k.toNat) * x) + ((g 12 k.toNat) * y))) s n) rfl trivial ?_
  refine ⟨rfl, ?_⟩
  rw [t1, t2, t3, t4, e2, e3, e4, e1]
  rfl
theorem re_pointBy {g : pg_H} {s n : Int} (hB : rm_B g s n) (k u v x y : Int) (hk : 0 ≤ k ∧ k < 2 * mt_rd s) (hu : -100000 ≤ u ∧ u ≤ 100000) (hv : -100000 ≤ v ∧ v ≤ 100000) (hx : -100000 ≤ x ∧ x ≤ 100000) (hy : -100000 ≤ y ∧ y ≤ 100000) : pg_Sem false pm_T_pointBy [.inr (.inr 0), .inl k, .inl u, .inl v, .inl x, .inl y] (rm g s n) (fun r h' => r = some (.inl (mt_tg s n k u v x y)) ∧ h' = rm (pg_up (pg_up g 0 15 (mt_x s k x y)) 0 16 (mt_y s k x y)) s n) := by
  obtain ⟨hs, hn, hT⟩ := id hB
  obtain ⟨hn1, hn2⟩ := id hn
  have hr := mt_rd_or hs
  have b1 := mt_x_bd (s := s) (k := k) 100000 hx hy
  have b2 := mt_y_bd (s := s) (k := k) 100000 hx hy
  refine pg_Sem_of pm_T_pointBy_f rfl ?_
  refine pg_ca 6 (L := [pg_inR x, pg_inR y]) (Mc := pm_T_map) (as := [.inr (.inr 0), .inl k, .inr (.inl x), .inr (.inl y)]) (h0 := rm g s n) (pc := 11) (lv := [(0, .inr (.inr 0)), (1, .inl k), (2, .inl u), (3, .inl v), (4, .inl x), (5, .inl y)]) (rest := []) rfl ⟨⟨by omega, by omega⟩, ⟨by omega, by omega⟩⟩ (re_map (g := g) hB k x y ⟨by omega, by omega⟩) ?_
  intro r_1 h_1 e_1; rw [e_1.1, e_1.2]
  refine pg_ca 11 (L := [pg_inR u, pg_inR v]) (Mc := pm_T_at) (as := [.inr (.inr 0), .inr (.inl ((mt_x s k x y) + u)), .inr (.inl ((mt_y s k x y) + v))]) (h0 := rm (pg_up (pg_up g 0 15 (mt_x s k x y)) 0 16 (mt_y s k x y)) s n) (pc := 29) (lv := [(0, .inr (.inr 0)), (1, .inl k), (2, .inl u), (3, .inl v), (4, .inl x), (5, .inl y)]) (rest := []) rfl ⟨⟨by omega, by omega⟩, ⟨by omega, by omega⟩⟩ (re_at (g := (pg_up (pg_up g 0 15 (mt_x s k x y)) 0 16 (mt_y s k x y))) (s := s) hn ((mt_x s k x y) + u) ((mt_y s k x y) + v) ⟨by omega, by omega⟩ ⟨by omega, by omega⟩) ?_
  intro r_1 h_1 e_1; rw [e_1.1, e_1.2]
  refine pg_re 0 (L := []) (r := some (.inl (mt_pt n (((mt_x s k x y) + u) % n) (((mt_y s k x y) + v) % n)))) (h0 := rm (pg_up (pg_up g 0 15 (mt_x s k x y)) 0 16 (mt_y s k x y)) s n) rfl trivial ?_
  exact ⟨rfl, rfl⟩
theorem re_kOf {g : pg_H} {s n : Int} (hn : 1 ≤ n ∧ n ≤ 12) (a : Int) (ha : 0 ≤ a ∧ a < 1000000) : pg_Sem false pm_T_kOf [.inr (.inr 0), .inl a] (rm g s n) (fun r h' => r = some (.inl (a / (n * n))) ∧ h' = rm g s n) := by
  obtain ⟨hn1, hn2⟩ := id hn
  have hnn := mt_nn hn1 hn2
  refine pg_Sem_of pm_T_kOf_f rfl ?_
  refine pg_re 7 (L := [(n * n) ≠ 0 ∧ pg_inR a ∧ pg_inR (n * n)]) (r := some (.inl (Int.tdiv a (n * n)))) (h0 := rm g s n) rfl ⟨by omega, ⟨by omega, by omega⟩, ⟨by omega, by omega⟩⟩ ?_
  refine ⟨?_, rfl⟩
  rw [pg_tdiv_nn ha.1]
theorem re_uOf {g : pg_H} {s n : Int} (hn : 1 ≤ n ∧ n ≤ 12) (a : Int) (ha : 0 ≤ a ∧ a < 1000000) : pg_Sem false pm_T_uOf [.inr (.inr 0), .inl a] (rm g s n) (fun r h' => r = some (.inl (a / n % n)) ∧ h' = rm g s n) := by
  obtain ⟨hn1, hn2⟩ := id hn
  have hnn := mt_nn hn1 hn2
  have e1 := pg_tdiv_nn (y := n) ha.1
  have h1 : 0 ≤ a / n := Int.ediv_nonneg ha.1 (by omega)
  have h2 := Int.ediv_le_self n ha.1
  refine pg_Sem_of pm_T_uOf_f rfl ?_
  refine pg_re 7 (L := [n ≠ 0 ∧ pg_inR a ∧ pg_inR n, n ≠ 0 ∧ pg_inR (Int.tdiv a n) ∧ pg_inR n]) (r := some (.inl (Int.tmod (Int.tdiv a n) n))) (h0 := rm g s n) rfl ⟨⟨by omega, ⟨by omega, by omega⟩, ⟨by omega, by omega⟩⟩, ⟨by omega, ⟨by omega, by omega⟩, ⟨by omega, by omega⟩⟩⟩ ?_
  refine ⟨?_, rfl⟩
  rw [pg_tdiv_nn ha.1, pg_tmod_nn h1]
theorem re_vOf {g : pg_H} {s n : Int} (hn : 1 ≤ n ∧ n ≤ 12) (a : Int) (ha : 0 ≤ a ∧ a < 1000000) : pg_Sem false pm_T_vOf [.inr (.inr 0), .inl a] (rm g s n) (fun r h' => r = some (.inl (a % n)) ∧ h' = rm g s n) := by
  obtain ⟨hn1, hn2⟩ := id hn
  have hnn := mt_nn hn1 hn2
  refine pg_Sem_of pm_T_vOf_f rfl ?_
  refine pg_re 4 (L := [n ≠ 0 ∧ pg_inR a ∧ pg_inR n]) (r := some (.inl (Int.tmod a n))) (h0 := rm g s n) rfl ⟨by omega, ⟨by omega, by omega⟩, ⟨by omega, by omega⟩⟩ ?_
  refine ⟨?_, rfl⟩
  rw [pg_tmod_nn ha.1]
theorem re_moveOf {g : pg_H} {s n : Int} (hn : 1 ≤ n ∧ n ≤ 12) (k u v : Int) (hu : pg_inL u) (hv : pg_inL v) : pg_Sem false pm_T_moveOf [.inr (.inr 0), .inl k, .inr (.inl u), .inr (.inl v)] (rm g s n) (fun r h' => r = some (.inl (mt_cd n k u v)) ∧ h' = rm g s n) := by
  obtain ⟨hn1, hn2⟩ := id hn
  have hnn := mt_nn hn1 hn2
  obtain ⟨u1, u2⟩ := hu
  obtain ⟨v1, v2⟩ := hv
  refine pg_Sem_of pm_T_moveOf_f rfl ?_
  refine pg_ca 12 (L := []) (Mc := pm_T_mod) (as := [.inr (.inl u), .inl n]) (h0 := rm g s n) (pc := 23) (lv := [(0, .inr (.inr 0)), (1, .inl k), (2, .inr (.inl u)), (4, .inr (.inl v))]) (rest := [.inl n, .inl ((n * n) * k)]) rfl trivial (re_mod (rm g s n) u n ⟨by omega, by omega⟩ ⟨by omega, by omega⟩) ?_
  intro r_1 h_1 e_1; rw [e_1.1, e_1.2]
  have hm_20 := mt_mod (n := n) (by omega) u
  refine pg_ca 5 (L := []) (Mc := pm_T_mod) (as := [.inr (.inl v), .inl n]) (h0 := rm g s n) (pc := 34) (lv := [(0, .inr (.inr 0)), (1, .inl k), (2, .inr (.inl u)), (4, .inr (.inl v))]) (rest := [.inl (((n * n) * k) + (n * (u % n)))]) rfl trivial (re_mod (rm g s n) v n ⟨by omega, by omega⟩ ⟨by omega, by omega⟩) ?_
  intro r_1 h_1 e_1; rw [e_1.1, e_1.2]
  have hm_31 := mt_mod (n := n) (by omega) v
  refine pg_re 1 (L := []) (r := some (.inl ((((n * n) * k) + (n * (u % n))) + (v % n)))) (h0 := rm g s n) rfl trivial ?_
  refine ⟨?_, rfl⟩
  rw [mt_cd_e]
theorem re_isK {g : pg_H} {s n : Int} (hs : s = 0 ∨ s = 1) (k : Int) (hk : pg_inR k) : pg_Sem false pm_T_isK [.inr (.inr 0), .inl k] (rm g s n) (fun r h' => r = some (.inl (if 0 ≤ k ∧ k < 2 * mt_rd s then 1 else 0)) ∧ h' = rm g s n) := by
  obtain ⟨k1, k2⟩ := hk
  have hr := mt_rd_or hs
  refine pg_Sem_of pm_T_isK_f rfl ?_
  refine pg_ca 5 (L := [pg_inR k]) (Mc := pm_T_round) (as := [.inr (.inr 0)]) (h0 := rm g s n) (pc := 8) (lv := [(0, .inr (.inr 0)), (1, .inl k)]) (rest := [.inl 2, .inr (.inl 0), .inr (.inl k)]) rfl ⟨by omega, by omega⟩ (re_round (g := g) (n := n) hs) ?_
  intro r_1 h_1 e_1; rw [e_1.1, e_1.2]
  refine pg_ca 4 (L := [pg_inR ((2 * (mt_rd s)) - 1)]) (Mc := pm_T_isIn) (as := [.inr (.inl k), .inr (.inl 0), .inr (.inl ((2 * (mt_rd s)) - 1))]) (h0 := rm g s n) (pc := 15) (lv := [(0, .inr (.inr 0)), (1, .inl k)]) (rest := []) rfl ⟨by omega, by omega⟩ (re_isIn (rm g s n) k 0 ((2 * (mt_rd s)) - 1) ⟨by omega, by omega⟩ ⟨by omega, by omega⟩ ⟨by omega, by omega⟩) ?_
  intro r_1 h_1 e_1; rw [e_1.1, e_1.2]
  have hin_12 : ((if 0 ≤ k ∧ k ≤ ((2 * (mt_rd s)) - 1) then (1 : Int) else 0) = 1 ∧ (0 ≤ k ∧ k ≤ ((2 * (mt_rd s)) - 1))) ∨ ((if 0 ≤ k ∧ k ≤ ((2 * (mt_rd s)) - 1) then (1 : Int) else 0) = 0 ∧ ¬ (0 ≤ k ∧ k ≤ ((2 * (mt_rd s)) - 1))) := by split <;> simp_all
  refine pg_re 0 (L := [(if 0 ≤ k ∧ k ≤ ((2 * (mt_rd s)) - 1) then 1 else 0) = 0 ∨ (if 0 ≤ k ∧ k ≤ ((2 * (mt_rd s)) - 1) then 1 else 0) = 1]) (r := some (.inl (if 0 ≤ k ∧ k ≤ ((2 * (mt_rd s)) - 1) then 1 else 0))) (h0 := rm g s n) rfl (by (show _ ∨ _); omega) ?_
  refine ⟨?_, rfl⟩
  rw [show (if 0 ≤ k ∧ k ≤ 2 * mt_rd s - 1 then (1 : Int) else 0) = (if 0 ≤ k ∧ k < 2 * mt_rd s then 1 else 0) by omega]
theorem re_tell {g : pg_H} {s n : Int} (hn : 1 ≤ n ∧ n ≤ 12) (a w : Int) (ha : 0 ≤ a ∧ a < 1000000) (hw : pg_inR w) : pg_Sem false pm_T_tell [.inr (.inr 0), .inl a, .inl w] (rm g s n) (fun r h' => r = some (.inl (if w = 0 then a / (n * n) else if w = 1 then a / n % n else a % n)) ∧ h' = rm g s n) := by
  obtain ⟨hn1, hn2⟩ := id hn
  have hnn := mt_nn hn1 hn2
  obtain ⟨w1, w2⟩ := hw
  refine pg_Sem_of pm_T_tell_f rfl ?_
  refine pg_br 1 (L := []) (P := pg_inR w) (c := ¬ w = 0) (st1 := (12, [(0, .inr (.inr 0)), (1, .inl a), (2, .inl w)], [], rm g s n)) (st2 := (4, [(0, .inr (.inr 0)), (1, .inl a), (2, .inl w)], [], rm g s n)) rfl trivial ⟨by omega, by omega⟩ (fun c_1_1 => ?_) (fun c_1_1 => ?_)
  · refine pg_br 2 (L := []) (P := pg_inR w ∧ pg_inR 1) (c := ¬ w = 1) (st1 := (25, [(0, .inr (.inr 0)), (1, .inl a), (2, .inl w)], [], rm g s n)) (st2 := (17, [(0, .inr (.inr 0)), (1, .inl a), (2, .inl w)], [], rm g s n)) rfl trivial ⟨⟨by omega, by omega⟩, ⟨by decide, by decide⟩⟩ (fun c_14_2 => ?_) (fun c_14_2 => ?_)
    · refine pg_ca 2 (L := []) (Mc := pm_T_vOf) (as := [.inr (.inr 0), .inl a]) (h0 := rm g s n) (pc := 30) (lv := [(0, .inr (.inr 0)), (1, .inl a), (2, .inl w)]) (rest := []) rfl trivial (re_vOf (g := g) (s := s) hn a ⟨by omega, by omega⟩) ?_
      intro r_1 h_1 e_1; rw [e_1.1, e_1.2]
      refine pg_re 0 (L := []) (r := some (.inl (a % n))) (h0 := rm g s n) rfl trivial ?_
      refine ⟨?_, rfl⟩
      first | rw [if_pos (by omega)] | rw [if_neg (by omega), if_pos (by omega)] | rw [if_neg (by omega), if_neg (by omega)]
    · refine pg_ca 2 (L := []) (Mc := pm_T_uOf) (as := [.inr (.inr 0), .inl a]) (h0 := rm g s n) (pc := 22) (lv := [(0, .inr (.inr 0)), (1, .inl a), (2, .inl w)]) (rest := []) rfl trivial (re_uOf (g := g) (s := s) hn a ⟨by omega, by omega⟩) ?_
      intro r_1 h_1 e_1; rw [e_1.1, e_1.2]
      refine pg_re 1 (L := []) (r := some (.inl (a / n % n))) (h0 := rm g s n) rfl trivial ?_
      refine ⟨?_, rfl⟩
      first | rw [if_pos (by omega)] | rw [if_neg (by omega), if_pos (by omega)] | rw [if_neg (by omega), if_neg (by omega)]
  · refine pg_ca 2 (L := []) (Mc := pm_T_kOf) (as := [.inr (.inr 0), .inl a]) (h0 := rm g s n) (pc := 9) (lv := [(0, .inr (.inr 0)), (1, .inl a), (2, .inl w)]) (rest := []) rfl trivial (re_kOf (g := g) (s := s) hn a ⟨by omega, by omega⟩) ?_
    intro r_1 h_1 e_1; rw [e_1.1, e_1.2]
    refine pg_re 1 (L := []) (r := some (.inl (a / (n * n)))) (h0 := rm g s n) rfl trivial ?_
    refine ⟨?_, rfl⟩
    first | rw [if_pos (by omega)] | rw [if_neg (by omega), if_pos (by omega)] | rw [if_neg (by omega), if_neg (by omega)]
theorem re_turn_l {g : pg_H} {s n : Int} (hs : s = 0 ∨ s = 1) {k x y t : Int} (ht : 0 ≤ t ∧ t ≤ 12) {W : Int × Int} : ∀ (d : Nat) (X Y j : Int) (hd : j + (d : Int) = t) (hj : 0 ≤ j) (hW : mt_tn s d X Y = W), pg_Good false pm_T_turn (fun r h' => r = none ∧ h' = rm (pg_up (pg_up g 0 15 W.1) 0 16 W.2) s n) (68, [(0, .inr (.inr 0)), (1, .inl k), (2, .inr (.inl x)), (4, .inr (.inl y)), (6, .inl t), (7, .inl j)], [], rm (pg_up (pg_up g 0 15 X) 0 16 Y) s n) := by
  intro d
  induction d with
  | zero =>
    intro X Y j hd hj hW
    refine pg_br 2 (L := []) (P := pg_inR j ∧ pg_inR t) (c := t ≤ j) (st1 := (121, [(0, .inr (.inr 0)), (1, .inl k), (2, .inr (.inl x)), (4, .inr (.inl y)), (6, .inl t), (7, .inl j)], [], rm (pg_up (pg_up g 0 15 X) 0 16 Y) s n)) (st2 := (75, [(0, .inr (.inr 0)), (1, .inl k), (2, .inr (.inl x)), (4, .inr (.inl y)), (6, .inl t), (7, .inl j)], [], rm (pg_up (pg_up g 0 15 X) 0 16 Y) s n)) rfl trivial ⟨⟨by omega, by omega⟩, ⟨by omega, by omega⟩⟩ (fun c_72_1 => ?_) (fun c_72_1 => ?_)
    · refine pg_re 0 (L := []) (r := none) (h0 := rm (pg_up (pg_up g 0 15 X) 0 16 Y) s n) rfl trivial ?_
      refine ⟨rfl, ?_⟩
      rw [← hW]
      rfl
    · exact (by exfalso; omega)
  | succ d ih =>
    intro X Y j hd hj hW
    refine pg_br 2 (L := []) (P := pg_inR j ∧ pg_inR t) (c := t ≤ j) (st1 := (121, [(0, .inr (.inr 0)), (1, .inl k), (2, .inr (.inl x)), (4, .inr (.inl y)), (6, .inl t), (7, .inl j)], [], rm (pg_up (pg_up g 0 15 X) 0 16 Y) s n)) (st2 := (75, [(0, .inr (.inr 0)), (1, .inl k), (2, .inr (.inl x)), (4, .inr (.inl y)), (6, .inl t), (7, .inl j)], [], rm (pg_up (pg_up g 0 15 X) 0 16 Y) s n)) rfl trivial ⟨⟨by omega, by omega⟩, ⟨by omega, by omega⟩⟩ (fun c_72_2 => ?_) (fun c_72_2 => ?_)
    · exact (by exfalso; omega)
    · refine pg_br 13 (L := []) (P := pg_inR s) (c := ¬ s = 0) (st1 := (107, [(0, .inr (.inr 0)), (1, .inl k), (2, .inr (.inl x)), (4, .inr (.inl y)), (6, .inl t), (7, .inl j), (8, .inr (.inl X)), (10, .inr (.inl Y))], [.inr (.inr 0)], pg_up (rm (pg_up (pg_up g 0 15 X) 0 16 Y) s n) 0 15 (-Y))) (st2 := (102, [(0, .inr (.inr 0)), (1, .inl k), (2, .inr (.inl x)), (4, .inr (.inl y)), (6, .inl t), (7, .inl j), (8, .inr (.inl X)), (10, .inr (.inl Y))], [.inr (.inr 0)], pg_up (rm (pg_up (pg_up g 0 15 X) 0 16 Y) s n) 0 15 (-Y))) rfl trivial ⟨by omega, by omega⟩ (fun c_99_3 => ?_) (fun c_99_3 => ?_)
      · refine pg_go 6 (L := []) (st' := (68, [(0, .inr (.inr 0)), (1, .inl k), (2, .inr (.inl x)), (4, .inr (.inl y)), (6, .inl t), (7, .inl (j + 1)), (8, .inr (.inl X)), (10, .inr (.inl Y))], [], pg_up (pg_up (rm (pg_up (pg_up g 0 15 X) 0 16 Y) s n) 0 15 (-Y)) 0 16 (X + Y))) rfl trivial ?_
        rw [rm_2x]
        refine pg_pick [0, 1, 2, 3, 4, 5] rfl ?_
        exact ih _ _ _ (by omega) (by omega) (by rw [← hW]; simp only [mt_tn]; first | rw [if_pos (by omega)] | rw [if_neg (by omega)])
      · refine pg_go 5 (L := []) (st' := (68, [(0, .inr (.inr 0)), (1, .inl k), (2, .inr (.inl x)), (4, .inr (.inl y)), (6, .inl t), (7, .inl (j + 1)), (8, .inr (.inl X)), (10, .inr (.inl Y))], [], pg_up (pg_up (rm (pg_up (pg_up g 0 15 X) 0 16 Y) s n) 0 15 (-Y)) 0 16 X)) rfl trivial ?_
        rw [rm_2x]
        refine pg_pick [0, 1, 2, 3, 4, 5] rfl ?_
        exact ih _ _ _ (by omega) (by omega) (by rw [← hW]; simp only [mt_tn]; first | rw [if_pos (by omega)] | rw [if_neg (by omega)])
theorem re_turn {g : pg_H} {s n : Int} (hs : s = 0 ∨ s = 1) (k x y : Int) (hk : 0 ≤ k ∧ k < 2 * mt_rd s) : pg_Sem false pm_T_turn [.inr (.inr 0), .inl k, .inr (.inl x), .inr (.inl y)] (rm g s n) (fun r h' => r = none ∧ h' = rm (pg_up (pg_up g 0 15 (mt_cl s k x y).1) 0 16 (mt_cl s k x y).2) s n) := by
  have hr := mt_rd_or hs
  refine pg_Sem_of pm_T_turn_f rfl ?_
  refine pg_go 10 (L := []) (st' := (16, [(0, .inr (.inr 0)), (1, .inl k), (2, .inr (.inl x)), (4, .inr (.inl y)), (6, .inl k)], [.inr (.inr 0), .inl k], pg_up (pg_up (rm g s n) 0 15 x) 0 16 y)) rfl trivial ?_
  rw [rm_up0 (by decide) (by decide), rm_up0 (by decide) (by decide)]
  refine pg_ca 0 (L := []) (Mc := pm_T_round) (as := [.inr (.inr 0)]) (h0 := rm (pg_up (pg_up g 0 15 x) 0 16 y) s n) (pc := 19) (lv := [(0, .inr (.inr 0)), (1, .inl k), (2, .inr (.inl x)), (4, .inr (.inl y)), (6, .inl k)]) (rest := [.inl k]) rfl trivial (re_round (g := (pg_up (pg_up g 0 15 x) 0 16 y)) (n := n) hs) ?_
  intro r_1 h_1 e_1; rw [e_1.1, e_1.2]
  refine pg_br 0 (L := []) (P := pg_inR k ∧ pg_inR (mt_rd s)) (c := k < (mt_rd s)) (st1 := (65, [(0, .inr (.inr 0)), (1, .inl k), (2, .inr (.inl x)), (4, .inr (.inl y)), (6, .inl k)], [], rm (pg_up (pg_up g 0 15 x) 0 16 y) s n)) (st2 := (22, [(0, .inr (.inr 0)), (1, .inl k), (2, .inr (.inl x)), (4, .inr (.inl y)), (6, .inl k)], [], rm (pg_up (pg_up g 0 15 x) 0 16 y) s n)) rfl trivial ⟨⟨by omega, by omega⟩, ⟨by omega, by omega⟩⟩ (fun c_19_1 => ?_) (fun c_19_1 => ?_)
  · refine pg_go 2 (L := []) (st' := (68, [(0, .inr (.inr 0)), (1, .inl k), (2, .inr (.inl x)), (4, .inr (.inl y)), (6, .inl k), (7, .inl 0)], [], rm (pg_up (pg_up g 0 15 x) 0 16 y) s n)) rfl trivial ?_
    refine re_turn_l hs (k := k) (x := x) (y := y) (t := k) (by omega) (k).toNat _ _ _ (by omega) (by omega) ?_
    unfold mt_cl
    first | (rw [if_pos (by omega), if_pos (by omega), if_pos (by omega)]; done) | (rw [if_pos (by omega), if_neg (by omega), if_neg (by omega)]; done) | (rw [if_neg (by omega)]; done) | (exfalso; omega)
  · refine pg_br 3 (L := []) (P := pg_inR s) (c := ¬ s = 0) (st1 := (34, [(0, .inr (.inr 0)), (1, .inl k), (2, .inr (.inl x)), (4, .inr (.inl y)), (6, .inl k)], [.inr (.inr 0)], rm (pg_up (pg_up g 0 15 x) 0 16 y) s n)) (st2 := (30, [(0, .inr (.inr 0)), (1, .inl k), (2, .inr (.inl x)), (4, .inr (.inl y)), (6, .inl k)], [.inr (.inr 0)], rm (pg_up (pg_up g 0 15 x) 0 16 y) s n)) rfl trivial ⟨by omega, by omega⟩ (fun c_27_2 => ?_) (fun c_27_2 => ?_)
    · refine pg_br 5 (L := []) (P := pg_inR s) (c := ¬ s = 0) (st1 := (53, [(0, .inr (.inr 0)), (1, .inl k), (2, .inr (.inl x)), (4, .inr (.inl y)), (6, .inl k)], [.inr (.inr 0)], pg_up (rm (pg_up (pg_up g 0 15 x) 0 16 y) s n) 0 15 y)) (st2 := (47, [(0, .inr (.inr 0)), (1, .inl k), (2, .inr (.inl x)), (4, .inr (.inl y)), (6, .inl k)], [.inr (.inr 0)], pg_up (rm (pg_up (pg_up g 0 15 x) 0 16 y) s n) 0 15 y)) rfl trivial ⟨by omega, by omega⟩ (fun c_44_3 => ?_) (fun c_44_3 => ?_)
      · refine pg_go 4 (L := []) (st' := (59, [(0, .inr (.inr 0)), (1, .inl k), (2, .inr (.inl x)), (4, .inr (.inl y)), (6, .inl k)], [.inr (.inr 0), .inl k], pg_up (pg_up (rm (pg_up (pg_up g 0 15 x) 0 16 y) s n) 0 15 y) 0 16 x)) rfl trivial ?_
        rw [rm_2x]
        refine pg_ca 0 (L := []) (Mc := pm_T_round) (as := [.inr (.inr 0)]) (h0 := rm (pg_up (pg_up g 0 15 y) 0 16 x) s n) (pc := 62) (lv := [(0, .inr (.inr 0)), (1, .inl k), (2, .inr (.inl x)), (4, .inr (.inl y)), (6, .inl k)]) (rest := [.inl k]) rfl trivial (re_round (g := (pg_up (pg_up g 0 15 y) 0 16 x)) (n := n) hs) ?_
        intro r_1 h_1 e_1; rw [e_1.1, e_1.2]
        refine pg_go 4 (L := []) (st' := (68, [(0, .inr (.inr 0)), (1, .inl k), (2, .inr (.inl x)), (4, .inr (.inl y)), (6, .inl (k - (mt_rd s))), (7, .inl 0)], [], rm (pg_up (pg_up g 0 15 y) 0 16 x) s n)) rfl trivial ?_
        refine re_turn_l hs (k := k) (x := x) (y := y) (t := (k - (mt_rd s))) (by omega) (k - (mt_rd s)).toNat _ _ _ (by omega) (by omega) ?_
        unfold mt_cl
        first | (rw [if_pos (by omega), if_pos (by omega), if_pos (by omega)]; done) | (rw [if_pos (by omega), if_neg (by omega), if_neg (by omega)]; done) | (rw [if_neg (by omega)]; done) | (exfalso; omega)
      · refine pg_go 6 (L := []) (st' := (59, [(0, .inr (.inr 0)), (1, .inl k), (2, .inr (.inl x)), (4, .inr (.inl y)), (6, .inl k)], [.inr (.inr 0), .inl k], pg_up (pg_up (rm (pg_up (pg_up g 0 15 x) 0 16 y) s n) 0 15 y) 0 16 (-y))) rfl trivial ?_
        rw [rm_2x]
        refine pg_ca 0 (L := []) (Mc := pm_T_round) (as := [.inr (.inr 0)]) (h0 := rm (pg_up (pg_up g 0 15 y) 0 16 (-y)) s n) (pc := 62) (lv := [(0, .inr (.inr 0)), (1, .inl k), (2, .inr (.inl x)), (4, .inr (.inl y)), (6, .inl k)]) (rest := [.inl k]) rfl trivial (re_round (g := (pg_up (pg_up g 0 15 y) 0 16 (-y))) (n := n) hs) ?_
        intro r_1 h_1 e_1; rw [e_1.1, e_1.2]
        refine pg_go 4 (L := []) (st' := (68, [(0, .inr (.inr 0)), (1, .inl k), (2, .inr (.inl x)), (4, .inr (.inl y)), (6, .inl (k - (mt_rd s))), (7, .inl 0)], [], rm (pg_up (pg_up g 0 15 y) 0 16 (-y)) s n)) rfl trivial ?_
        refine re_turn_l hs (k := k) (x := x) (y := y) (t := (k - (mt_rd s))) (by omega) (k - (mt_rd s)).toNat _ _ _ (by omega) (by omega) ?_
        unfold mt_cl
        first | (rw [if_pos (by omega), if_pos (by omega), if_pos (by omega)]; done) | (rw [if_pos (by omega), if_neg (by omega), if_neg (by omega)]; done) | (rw [if_neg (by omega)]; done) | (exfalso; omega)
    · refine pg_br 6 (L := []) (P := pg_inR s) (c := ¬ s = 0) (st1 := (53, [(0, .inr (.inr 0)), (1, .inl k), (2, .inr (.inl x)), (4, .inr (.inl y)), (6, .inl k)], [.inr (.inr 0)], pg_up (rm (pg_up (pg_up g 0 15 x) 0 16 y) s n) 0 15 x)) (st2 := (47, [(0, .inr (.inr 0)), (1, .inl k), (2, .inr (.inl x)), (4, .inr (.inl y)), (6, .inl k)], [.inr (.inr 0)], pg_up (rm (pg_up (pg_up g 0 15 x) 0 16 y) s n) 0 15 x)) rfl trivial ⟨by omega, by omega⟩ (fun c_44_4 => ?_) (fun c_44_4 => ?_)
      · refine pg_go 4 (L := []) (st' := (59, [(0, .inr (.inr 0)), (1, .inl k), (2, .inr (.inl x)), (4, .inr (.inl y)), (6, .inl k)], [.inr (.inr 0), .inl k], pg_up (pg_up (rm (pg_up (pg_up g 0 15 x) 0 16 y) s n) 0 15 x) 0 16 x)) rfl trivial ?_
        rw [rm_2x]
        refine pg_ca 0 (L := []) (Mc := pm_T_round) (as := [.inr (.inr 0)]) (h0 := rm (pg_up (pg_up g 0 15 x) 0 16 x) s n) (pc := 62) (lv := [(0, .inr (.inr 0)), (1, .inl k), (2, .inr (.inl x)), (4, .inr (.inl y)), (6, .inl k)]) (rest := [.inl k]) rfl trivial (re_round (g := (pg_up (pg_up g 0 15 x) 0 16 x)) (n := n) hs) ?_
        intro r_1 h_1 e_1; rw [e_1.1, e_1.2]
        refine pg_go 4 (L := []) (st' := (68, [(0, .inr (.inr 0)), (1, .inl k), (2, .inr (.inl x)), (4, .inr (.inl y)), (6, .inl (k - (mt_rd s))), (7, .inl 0)], [], rm (pg_up (pg_up g 0 15 x) 0 16 x) s n)) rfl trivial ?_
        refine re_turn_l hs (k := k) (x := x) (y := y) (t := (k - (mt_rd s))) (by omega) (k - (mt_rd s)).toNat _ _ _ (by omega) (by omega) ?_
        unfold mt_cl
        first | (rw [if_pos (by omega), if_pos (by omega), if_pos (by omega)]; done) | (rw [if_pos (by omega), if_neg (by omega), if_neg (by omega)]; done) | (rw [if_neg (by omega)]; done) | (exfalso; omega)
      · refine pg_go 6 (L := []) (st' := (59, [(0, .inr (.inr 0)), (1, .inl k), (2, .inr (.inl x)), (4, .inr (.inl y)), (6, .inl k)], [.inr (.inr 0), .inl k], pg_up (pg_up (rm (pg_up (pg_up g 0 15 x) 0 16 y) s n) 0 15 x) 0 16 (-y))) rfl trivial ?_
        rw [rm_2x]
        refine pg_ca 0 (L := []) (Mc := pm_T_round) (as := [.inr (.inr 0)]) (h0 := rm (pg_up (pg_up g 0 15 x) 0 16 (-y)) s n) (pc := 62) (lv := [(0, .inr (.inr 0)), (1, .inl k), (2, .inr (.inl x)), (4, .inr (.inl y)), (6, .inl k)]) (rest := [.inl k]) rfl trivial (re_round (g := (pg_up (pg_up g 0 15 x) 0 16 (-y))) (n := n) hs) ?_
        intro r_1 h_1 e_1; rw [e_1.1, e_1.2]
        refine pg_go 4 (L := []) (st' := (68, [(0, .inr (.inr 0)), (1, .inl k), (2, .inr (.inl x)), (4, .inr (.inl y)), (6, .inl (k - (mt_rd s))), (7, .inl 0)], [], rm (pg_up (pg_up g 0 15 x) 0 16 (-y)) s n)) rfl trivial ?_
        refine re_turn_l hs (k := k) (x := x) (y := y) (t := (k - (mt_rd s))) (by omega) (k - (mt_rd s)).toNat _ _ _ (by omega) (by omega) ?_
        unfold mt_cl
        first | (rw [if_pos (by omega), if_pos (by omega), if_pos (by omega)]; done) | (rw [if_pos (by omega), if_neg (by omega), if_neg (by omega)]; done) | (rw [if_neg (by omega)]; done) | (exfalso; omega)
theorem re_fl_l {g0 : pg_H} {s n : Int} (hs : s = 0 ∨ s = 1) : ∀ (d : Nat) (g : pg_H) (k : Int) (hd : k + (d : Int) = 2 * mt_rd s) (hk0 : 0 ≤ k) (hM : rm_T g s k) (hf : rf [9, 10, 11, 12] [15, 16] g0 g), pg_Good false pm_T_findLinear (fun r h' => r = none ∧ ∃ g', h' = rm g' s n ∧ rm_T g' s (2 * mt_rd s) ∧ rf [9, 10, 11, 12] [15, 16] g0 g') (2, [(0, .inr (.inr 0)), (1, .inl k)], [], rm g s n) := by
  intro d
  induction d with
  | zero =>
    intro g k hd hk0 hM hf
    have hr := mt_rd_or hs
    refine pg_ca 3 (L := []) (Mc := pm_T_round) (as := [.inr (.inr 0)]) (h0 := rm g s n) (pc := 8) (lv := [(0, .inr (.inr 0)), (1, .inl k)]) (rest := [.inl 2, .inl k]) rfl trivial (re_round (g := g) (n := n) hs) ?_
    intro r_1 h_1 e_1; rw [e_1.1, e_1.2]
    refine pg_br 1 (L := []) (P := pg_inR k ∧ pg_inR (2 * (mt_rd s))) (c := (2 * (mt_rd s)) ≤ k) (st1 := (76, [(0, .inr (.inr 0)), (1, .inl k)], [], rm g s n)) (st2 := (12, [(0, .inr (.inr 0)), (1, .inl k)], [], rm g s n)) rfl trivial ⟨⟨by omega, by omega⟩, ⟨by omega, by omega⟩⟩ (fun c_9_1 => ?_) (fun c_9_1 => ?_)
    · refine pg_re 0 (L := []) (r := none) (h0 := rm g s n) rfl trivial ?_
      exact ⟨rfl, g, rfl, by rw [show 2 * mt_rd s = k by omega]; exact hM, hf⟩
    · exact (by exfalso; omega)
  | succ d ih =>
    intro g k hd hk0 hM hf
    have hr := mt_rd_or hs
    have hk : 0 ≤ k ∧ k < 2 * mt_rd s := by omega
    refine pg_ca 3 (L := []) (Mc := pm_T_round) (as := [.inr (.inr 0)]) (h0 := rm g s n) (pc := 8) (lv := [(0, .inr (.inr 0)), (1, .inl k)]) (rest := [.inl 2, .inl k]) rfl trivial (re_round (g := g) (n := n) hs) ?_
    intro r_1 h_1 e_1; rw [e_1.1, e_1.2]
    refine pg_br 1 (L := []) (P := pg_inR k ∧ pg_inR (2 * (mt_rd s))) (c := (2 * (mt_rd s)) ≤ k) (st1 := (76, [(0, .inr (.inr 0)), (1, .inl k)], [], rm g s n)) (st2 := (12, [(0, .inr (.inr 0)), (1, .inl k)], [], rm g s n)) rfl trivial ⟨⟨by omega, by omega⟩, ⟨by omega, by omega⟩⟩ (fun c_9_2 => ?_) (fun c_9_2 => ?_)
    · exact (by exfalso; omega)
    · refine pg_ca 4 (L := []) (Mc := pm_T_turn) (as := [.inr (.inr 0), .inl k, .inr (.inl 1), .inr (.inl 0)]) (h0 := rm g s n) (pc := 19) (lv := [(0, .inr (.inr 0)), (1, .inl k)]) (rest := []) rfl trivial (re_turn (g := g) (n := n) hs k 1 0 ⟨by omega, by omega⟩) ?_
      intro r_1 h_1 e_1; rw [e_1.1, e_1.2]
      refine pg_go 18 (L := [0 ≤ k ∧ k < (12 : Int), 0 ≤ k ∧ k < (12 : Int)]) (st' := (45, [(0, .inr (.inr 0)), (1, .inl k)], [.inr (.inl 1), .inr (.inl 0), .inl k, .inr (.inr 0)], pg_up (pg_up (rm (pg_up (pg_up g 0 15 ((mt_cl s k 1 0).1)) 0 16 ((mt_cl s k 1 0).2)) s n) 9 k.toNat ((mt_cl s k 1 0).1)) 10 k.toNat ((mt_cl s k 1 0).2))) rfl ⟨⟨by omega, by omega⟩, ⟨by omega, by omega⟩⟩ ?_
      rw [rm_upq (q := 9) (by decide), rm_upq (q := 10) (by decide)]
      refine pg_ca 0 (L := []) (Mc := pm_T_turn) (as := [.inr (.inr 0), .inl k, .inr (.inl 0), .inr (.inl 1)]) (h0 := rm (pg_up (pg_up (pg_up (pg_up g 0 15 ((mt_cl s k 1 0).1)) 0 16 ((mt_cl s k 1 0).2)) 9 k.toNat ((mt_cl s k 1 0).1)) 10 k.toNat ((mt_cl s k 1 0).2)) s n) (pc := 48) (lv := [(0, .inr (.inr 0)), (1, .inl k)]) (rest := []) rfl trivial (re_turn (g := (pg_up (pg_up (pg_up (pg_up g 0 15 ((mt_cl s k 1 0).1)) 0 16 ((mt_cl s k 1 0).2)) 9 k.toNat ((mt_cl s k 1 0).1)) 10 k.toNat ((mt_cl s k 1 0).2))) (n := n) hs k 0 1 ⟨by omega, by omega⟩) ?_
      intro r_1 h_1 e_1; rw [e_1.1, e_1.2]
      refine pg_go 16 (L := [0 ≤ k ∧ k < (12 : Int), 0 ≤ k ∧ k < (12 : Int)]) (st' := (2, [(0, .inr (.inr 0)), (1, .inl (k + 1))], [], pg_up (pg_up (rm (pg_up (pg_up (pg_up (pg_up (pg_up (pg_up g 0 15 ((mt_cl s k 1 0).1)) 0 16 ((mt_cl s k 1 0).2)) 9 k.toNat ((mt_cl s k 1 0).1)) 10 k.toNat ((mt_cl s k 1 0).2)) 0 15 ((mt_cl s k 0 1).1)) 0 16 ((mt_cl s k 0 1).2)) s n) 11 k.toNat ((mt_cl s k 0 1).1)) 12 k.toNat ((mt_cl s k 0 1).2))) rfl ⟨⟨by omega, by omega⟩, ⟨by omega, by omega⟩⟩ ?_
      rw [rm_upq (q := 11) (by decide), rm_upq (q := 12) (by decide)]
      exact ih _ _ (by omega) (by omega) (re_fl_s hs hk hM) (rf_q (rf_q (rf_0 (rf_0 (rf_q (rf_q (rf_0 (rf_0 hf (by decide) _) (by decide) _) (by decide) (by decide) _ _) (by decide) (by decide) _ _) (by decide) _) (by decide) _) (by decide) (by decide) _ _) (by decide) (by decide) _ _)
theorem re_findLinear {g : pg_H} {s n : Int} (hs : s = 0 ∨ s = 1) : pg_Sem false pm_T_findLinear [.inr (.inr 0)] (rm g s n) (fun r h' => r = none ∧ ∃ g', h' = rm g' s n ∧ rm_T g' s (2 * mt_rd s) ∧ rf [9, 10, 11, 12] [15, 16] g g') := by
  have hr := mt_rd_or hs
  refine pg_Sem_of pm_T_findLinear_f rfl ?_
  refine pg_go 2 (L := []) (st' := (2, [(0, .inr (.inr 0)), (1, .inl 0)], [], rm g s n)) rfl trivial ?_
  exact re_fl_l hs (2 * mt_rd s).toNat g 0 (by omega) (by omega) (fun j hj => by omega) (rf_rf _ _ _)
