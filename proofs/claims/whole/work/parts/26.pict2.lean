/-! counting; Picture: the rest -/
/-- how many numbers below m have P -/
noncomputable def pg_cn (P : Nat → Prop) : Nat → Int
  | 0 => 0
  | m + 1 => pg_cn P m + pg_b (P m)
theorem pg_b_01 (P : Prop) : pg_b P = 0 ∨ pg_b P = 1 := by
  rcases pg_b_or P with h | h
  · exact Or.inr h.2
  · exact Or.inl h.2
theorem pg_cn_bd (P : Nat → Prop) (m : Nat) : 0 ≤ pg_cn P m ∧ pg_cn P m ≤ m := by
  induction m with
  | zero => exact ⟨Int.le_refl _, Int.le_refl _⟩
  | succ m ih =>
    have := pg_b_01 (P m)
    simp only [pg_cn]
    omega
theorem pg_cn_congr {P R : Nat → Prop} {m : Nat} (h : ∀ j, j < m → (P j ↔ R j)) : pg_cn P m = pg_cn R m := by
  induction m with
  | zero => rfl
  | succ m ih =>
    simp only [pg_cn]
    rw [ih (fun j hj => h j (by omega)), pg_b_iff (h m (by omega))]
theorem pg_cn_pos {P : Nat → Prop} {m : Nat} : 0 < pg_cn P m ↔ ∃ j, j < m ∧ P j := by
  induction m with
  | zero =>
    refine ⟨fun h => absurd h (by simp [pg_cn]), fun ⟨j, h, _⟩ => absurd h (by omega)⟩
  | succ m ih =>
    have hb := pg_cn_bd P m
    simp only [pg_cn]
    rcases pg_b_or (P m) with ⟨h1, h2⟩ | ⟨h1, h2⟩
    · refine ⟨fun _ => ⟨m, by omega, h1⟩, fun _ => by omega⟩
    · rw [h2, Int.add_zero, ih]
      refine ⟨fun ⟨j, h3, h4⟩ => ⟨j, by omega, h4⟩, fun ⟨j, h3, h4⟩ => ⟨j, ?_, h4⟩⟩
      rcases (show j < m ∨ j = m by omega) with h5 | rfl
      · exact h5
      · exact absurd h4 h1
theorem pg_cn_up (f : Nat → Int) (p : Nat) (c a : Int) (m : Nat) (hp : p < m) : pg_cn (fun q => (if q = p then c else f q) = a) m = pg_cn (fun q => f q = a) m + pg_b (c = a) - pg_b (f p = a) := by
  induction m with
  | zero => omega
  | succ m ih =>
    simp only [pg_cn]
    rcases (show p < m ∨ p = m by omega) with h | rfl
    · rw [ih h, if_neg (by omega)]
      omega
    · have e : pg_cn (fun q => (if q = p then c else f q) = a) p = pg_cn (fun q => f q = a) p := pg_cn_congr (fun j hj => by rw [if_neg (by omega)])
      rw [e, if_pos rfl]
      omega
/-- how many points each colour has -/
def cp_S (h : pg_H) (n : Int) : Prop := ∀ c : Nat, c < 10 → h 8 c = pg_cn (fun p => h 7 p = c) (n * n).toNat
/-- the strip's rows y .. y + w - 1 stay as they are: turned over (tb = 1), about (bk = 1), along by u -/
def mt_st (col : Nat → Int) (n y w tb bk u : Int) : Prop := ∀ j x : Int, 0 ≤ j → j < w → 0 ≤ x → x < n → col (mt_pt n (x % n) ((y + j) % n)).toNat = col (mt_pt n ((if bk = 0 then u + x else u - x) % n) ((y + (if tb = 0 then j else w - 1 - j)) % n)).toNat
theorem cp_S_put {h : pg_H} {n p c : Int} (hS : cp_S h n) (hp : 0 ≤ p ∧ p < n * n) (ho : 0 ≤ h 7 p.toNat ∧ h 7 p.toNat ≤ 9) (hc : 0 ≤ c ∧ c ≤ 9) (hne : h 7 p.toNat ≠ c) :
    cp_S (pg_up (pg_up (pg_up h 8 (h 7 p.toNat).toNat (h 8 (h 7 p.toNat).toNat - 1)) 8 c.toNat (pg_up h 8 (h 7 p.toNat).toNat (h 8 (h 7 p.toNat).toNat - 1) 8 c.toNat + 1)) 7 p.toNat c) n := by
  intro a ha
  have e7 : (fun q => pg_up (pg_up (pg_up h 8 (h 7 p.toNat).toNat (h 8 (h 7 p.toNat).toNat - 1)) 8 c.toNat (pg_up h 8 (h 7 p.toNat).toNat (h 8 (h 7 p.toNat).toNat - 1) 8 c.toNat + 1)) 7 p.toNat c 7 q = (a : Int)) = (fun q => (if q = p.toNat then c else h 7 q) = (a : Int)) := by
    funext q
    rw [pg_up_at, pg_up_ne _ _ _ (by decide), pg_up_ne _ _ _ (by decide)]
  rw [e7, pg_cn_up (h 7) p.toNat c a _ (by omega), pg_up_ne _ _ _ (by decide), pg_up_at, pg_up_at, pg_up_at, ← hS a ha]
  by_cases h1 : a = c.toNat
  · rw [if_pos h1, if_neg (by omega), pg_b_t (by omega), pg_b_f (by omega), h1]
    omega
  · rw [if_neg h1, pg_b_f (P := c = (a : Int)) (by omega)]
    by_cases h2 : a = (h 7 p.toNat).toNat
    · rw [if_pos h2, pg_b_t (by omega), h2]
      omega
    · rw [if_neg h2, pg_b_f (by omega)]
      omega
theorem cp_same_l {h : pg_H} (hR : ∀ c : Nat, c < 10 → -1 ≤ h 9 c ∧ h 9 c ≤ 9) : ∀ (d : Nat) (j : Int) (hd : j + (d : Int) = 10) (hj : 0 ≤ j) (hI : ∀ c : Nat, (c : Int) < j → h 9 c = -1 ∨ h 9 c = c), pg_Good true pm_C_isSameImage (fun r h' => r = some (.inl (pg_b (∀ c : Nat, c < 10 → h 9 c = -1 ∨ h 9 c = c))) ∧ h' = h) (2, [(0, .inr (.inr 6)), (1, .inl j)], [], h) := by
  intro d
  induction d with
  | zero =>
    intro j hd hj hI
    refine pg_br 2 (L := []) (P := pg_inR j ∧ pg_inR 10) (c := 10 ≤ j) (st1 := (36, [(0, .inr (.inr 6)), (1, .inl j)], [], h)) (st2 := (8, [(0, .inr (.inr 6)), (1, .inl j)], [], h)) rfl trivial ⟨⟨by omega, by omega⟩, ⟨by decide, by decide⟩⟩ (fun c_5_1 => ?_) (fun c_5_1 => ?_)
    · refine pg_re 1 (L := [1 = 0 ∨ 1 = 1]) (r := some (.inl 1)) (h0 := h) rfl (Or.inr rfl) ?_
      exact ⟨by rw [pg_b_t (fun c hc => hI c (by omega))], rfl⟩
    · exact (by exfalso; omega)
  | succ d ih =>
    intro j hd hj hI
    have hi := hR j.toNat (by omega)
    refine pg_br 2 (L := []) (P := pg_inR j ∧ pg_inR 10) (c := 10 ≤ j) (st1 := (36, [(0, .inr (.inr 6)), (1, .inl j)], [], h)) (st2 := (8, [(0, .inr (.inr 6)), (1, .inl j)], [], h)) rfl trivial ⟨⟨by omega, by omega⟩, ⟨by decide, by decide⟩⟩ (fun c_5_2 => ?_) (fun c_5_2 => ?_)
    · exact (by exfalso; omega)
    · refine pg_br 5 (L := [0 ≤ j ∧ j < (10 : Int)]) (P := pg_inR (h 9 j.toNat) ∧ pg_inR (-1)) (c := (h 9 j.toNat) = (-1)) (st1 := (30, [(0, .inr (.inr 6)), (1, .inl j)], [], h)) (st2 := (18, [(0, .inr (.inr 6)), (1, .inl j)], [], h)) rfl ⟨by omega, by omega⟩ ⟨⟨by omega, by omega⟩, ⟨by decide, by decide⟩⟩ (fun c_15_3 => ?_) (fun c_15_3 => ?_)
      · refine pg_go 2 (L := []) (st' := (2, [(0, .inr (.inr 6)), (1, .inl (j + 1))], [], h)) rfl trivial ?_
        refine ih _ (by omega) (by omega) (fun c hc => ?_)
        rcases (show (c : Int) < j ∨ c = j.toNat by omega) with h1 | rfl
        · exact hI c h1
        · omega
      · refine pg_br 5 (L := [0 ≤ j ∧ j < (10 : Int)]) (P := pg_inR (h 9 j.toNat) ∧ pg_inR j) (c := (h 9 j.toNat) = j) (st1 := (30, [(0, .inr (.inr 6)), (1, .inl j)], [], h)) (st2 := (28, [(0, .inr (.inr 6)), (1, .inl j)], [], h)) rfl ⟨by omega, by omega⟩ ⟨⟨by omega, by omega⟩, ⟨by omega, by omega⟩⟩ (fun c_25_4 => ?_) (fun c_25_4 => ?_)
        · refine pg_go 2 (L := []) (st' := (2, [(0, .inr (.inr 6)), (1, .inl (j + 1))], [], h)) rfl trivial ?_
          refine ih _ (by omega) (by omega) (fun c hc => ?_)
          rcases (show (c : Int) < j ∨ c = j.toNat by omega) with h1 | rfl
          · exact hI c h1
          · omega
        · refine pg_re 1 (L := [0 = 0 ∨ 0 = 1]) (r := some (.inl 0)) (h0 := h) rfl (Or.inl rfl) ?_
          refine ⟨?_, rfl⟩
          rw [pg_b_f]
          intro hz
          have := hz j.toNat (by omega)
          omega
theorem cp_same {h : pg_H} (hR : ∀ c : Nat, c < 10 → -1 ≤ h 9 c ∧ h 9 c ≤ 9) : pg_Sem true pm_C_isSameImage [.inr (.inr 6)] h (fun r h' => r = some (.inl (pg_b (∀ c : Nat, c < 10 → h 9 c = -1 ∨ h 9 c = c))) ∧ h' = h) := by
  refine pg_Sem_of pm_C_isSameImage_f rfl ?_
  refine pg_go 2 (L := []) (st' := (2, [(0, .inr (.inr 6)), (1, .inl 0)], [], h)) rfl trivial ?_
  exact cp_same_l hR 10 _ (by omega) (by omega) (fun c hc => by omega)
theorem cp_pres_l {h : pg_H} (hR : ∀ c : Nat, c < 10 → 0 ≤ h 8 c ∧ h 8 c ≤ 1000) : ∀ (d : Nat) (f j : Int) (hd : j + (d : Int) = 10) (hj : 0 ≤ j) (hI : f = pg_cn (fun c => 0 < h 8 c) j.toNat), pg_Good true pm_C_present (fun r h' => r = some (.inl (pg_cn (fun c => 0 < h 8 c) 10)) ∧ h' = h) (4, [(0, .inr (.inr 6)), (1, .inl f), (2, .inl j)], [], h) := by
  intro d
  induction d with
  | zero =>
    intro f j hd hj hI
    refine pg_br 2 (L := []) (P := pg_inR j ∧ pg_inR 10) (c := 10 ≤ j) (st1 := (28, [(0, .inr (.inr 6)), (1, .inl f), (2, .inl j)], [], h)) (st2 := (10, [(0, .inr (.inr 6)), (1, .inl f), (2, .inl j)], [], h)) rfl trivial ⟨⟨by omega, by omega⟩, ⟨by decide, by decide⟩⟩ (fun c_7_1 => ?_) (fun c_7_1 => ?_)
    · refine pg_re 1 (L := []) (r := some (.inl f)) (h0 := h) rfl trivial ?_
      refine ⟨?_, rfl⟩
      rw [hI, show j.toNat = 10 by omega]
    · exact (by exfalso; omega)
  | succ d ih =>
    intro f j hd hj hI
    have hi := hR j.toNat (by omega)
    have ej : (j + 1).toNat = j.toNat + 1 := by omega
    refine pg_br 2 (L := []) (P := pg_inR j ∧ pg_inR 10) (c := 10 ≤ j) (st1 := (28, [(0, .inr (.inr 6)), (1, .inl f), (2, .inl j)], [], h)) (st2 := (10, [(0, .inr (.inr 6)), (1, .inl f), (2, .inl j)], [], h)) rfl trivial ⟨⟨by omega, by omega⟩, ⟨by decide, by decide⟩⟩ (fun c_7_2 => ?_) (fun c_7_2 => ?_)
    · exact (by exfalso; omega)
    · refine pg_br 4 (L := [0 ≤ j ∧ j < (10 : Int)]) (P := pg_inR (h 8 j.toNat)) (c := (h 8 j.toNat) ≤ 0) (st1 := (22, [(0, .inr (.inr 6)), (1, .inl f), (2, .inl j)], [], h)) (st2 := (19, [(0, .inr (.inr 6)), (1, .inl f), (2, .inl j)], [], h)) rfl ⟨by omega, by omega⟩ ⟨by omega, by omega⟩ (fun c_16_3 => ?_) (fun c_16_3 => ?_)
      · refine pg_go 2 (L := []) (st' := (4, [(0, .inr (.inr 6)), (1, .inl f), (2, .inl (j + 1))], [], h)) rfl trivial ?_
        refine ih _ _ (by omega) (by omega) ?_
        rw [ej, hI]
        simp only [pg_cn]
        first | rw [pg_b_t (by omega)] | (rw [pg_b_f (by omega)]; omega)
      · refine pg_go 3 (L := []) (st' := (4, [(0, .inr (.inr 6)), (1, .inl (f + 1)), (2, .inl (j + 1))], [], h)) rfl trivial ?_
        refine ih _ _ (by omega) (by omega) ?_
        rw [ej, hI]
        simp only [pg_cn]
        first | rw [pg_b_t (by omega)] | (rw [pg_b_f (by omega)]; omega)
theorem cp_present {h : pg_H} (hR : ∀ c : Nat, c < 10 → 0 ≤ h 8 c ∧ h 8 c ≤ 1000) : pg_Sem true pm_C_present [.inr (.inr 6)] h (fun r h' => r = some (.inl (pg_cn (fun c => 0 < h 8 c) 10)) ∧ h' = h) := by
  refine pg_Sem_of pm_C_present_f rfl ?_
  refine pg_go 4 (L := []) (st' := (4, [(0, .inr (.inr 6)), (1, .inl 0), (2, .inl 0)], [], h)) rfl trivial ?_
  exact cp_pres_l hR 10 _ _ (by omega) (by omega) rfl
theorem cp_rare_l {h : pg_H} {s n : Int} (hB : cm_B h s n) (hC : cp_C h) (hR : ∀ c : Nat, c < 10 → 0 ≤ h 8 c ∧ h 8 c ≤ 1000) : ∀ (d : Nat) (f j : Int) (hd : j + (d : Int) = n * n) (hj : 0 ≤ j) (hI : 0 ≤ f ∧ f < n * n), pg_Good true pm_C_rarestPoint (fun r h' => ∃ z : Int, (0 ≤ z ∧ z < n * n) ∧ r = some (.inl z) ∧ h' = h) (4, [(0, .inr (.inr 6)), (1, .inl f), (2, .inl j)], [], h) := by
  intro d
  induction d with
  | zero =>
    intro f j hd hj hI
    obtain ⟨hs, ⟨hn1, hn2⟩, e1, e2, e3, e5⟩ := id hB
    have hr := mt_rd_or hs
    have hnn := mt_nn hn1 hn2
    refine pg_ca 3 (L := []) (Mc := pm_M_points) (as := [.inr (.inr 4)]) (h0 := h) (pc := 12) (lv := [(0, .inr (.inr 6)), (1, .inl f), (2, .inl j)]) (rest := [.inl j]) rfl trivial (cm_points hB) ?_
    intro r_1 h_1 e_1; rw [e_1.1, e_1.2]
    refine pg_br 0 (L := []) (P := pg_inR j ∧ pg_inR (n * n)) (c := (n * n) ≤ j) (st1 := (48, [(0, .inr (.inr 6)), (1, .inl f), (2, .inl j)], [], h)) (st2 := (15, [(0, .inr (.inr 6)), (1, .inl f), (2, .inl j)], [], h)) rfl trivial ⟨⟨by omega, by omega⟩, ⟨by omega, by omega⟩⟩ (fun c_12_1 => ?_) (fun c_12_1 => ?_)
    · refine pg_re 1 (L := []) (r := some (.inl f)) (h0 := h) rfl trivial ?_
      exact ⟨_, hI, rfl, rfl⟩
    · exact (by exfalso; omega)
  | succ d ih =>
    intro f j hd hj hI
    obtain ⟨hs, ⟨hn1, hn2⟩, e1, e2, e3, e5⟩ := id hB
    have hr := mt_rd_or hs
    have hnn := mt_nn hn1 hn2
    have h1 := hC j.toNat (by omega)
    have h2 := hC f.toNat (by omega)
    have h3 := hR (h 7 j.toNat).toNat (by omega)
    have h4 := hR (h 7 f.toNat).toNat (by omega)
    refine pg_ca 3 (L := []) (Mc := pm_M_points) (as := [.inr (.inr 4)]) (h0 := h) (pc := 12) (lv := [(0, .inr (.inr 6)), (1, .inl f), (2, .inl j)]) (rest := [.inl j]) rfl trivial (cm_points hB) ?_
    intro r_1 h_1 e_1; rw [e_1.1, e_1.2]
    refine pg_br 0 (L := []) (P := pg_inR j ∧ pg_inR (n * n)) (c := (n * n) ≤ j) (st1 := (48, [(0, .inr (.inr 6)), (1, .inl f), (2, .inl j)], [], h)) (st2 := (15, [(0, .inr (.inr 6)), (1, .inl f), (2, .inl j)], [], h)) rfl trivial ⟨⟨by omega, by omega⟩, ⟨by omega, by omega⟩⟩ (fun c_12_2 => ?_) (fun c_12_2 => ?_)
    · exact (by exfalso; omega)
    · refine pg_br 14 (L := [0 ≤ j ∧ j < (144 : Int), 0 ≤ (h 7 j.toNat) ∧ (h 7 j.toNat) < (10 : Int), 0 ≤ f ∧ f < (144 : Int), 0 ≤ (h 7 f.toNat) ∧ (h 7 f.toNat) < (10 : Int)]) (P := pg_inR (h 8 ((h 7 j.toNat).toNat)) ∧ pg_inR (h 8 ((h 7 f.toNat).toNat))) (c := (h 8 ((h 7 f.toNat).toNat)) ≤ (h 8 ((h 7 j.toNat).toNat))) (st1 := (42, [(0, .inr (.inr 6)), (1, .inl f), (2, .inl j)], [], h)) (st2 := (40, [(0, .inr (.inr 6)), (1, .inl f), (2, .inl j)], [], h)) rfl ⟨⟨by omega, by omega⟩, ⟨by omega, by omega⟩, ⟨by omega, by omega⟩, ⟨by omega, by omega⟩⟩ ⟨⟨by omega, by omega⟩, ⟨by omega, by omega⟩⟩ (fun c_37_3 => ?_) (fun c_37_3 => ?_)
      · refine pg_go 2 (L := []) (st' := (4, [(0, .inr (.inr 6)), (1, .inl f), (2, .inl (j + 1))], [], h)) rfl trivial ?_
        exact ih _ _ (by omega) (by omega) (by omega)
      · refine pg_go 4 (L := []) (st' := (4, [(0, .inr (.inr 6)), (1, .inl j), (2, .inl (j + 1))], [], h)) rfl trivial ?_
        exact ih _ _ (by omega) (by omega) (by omega)
theorem cp_rare {h : pg_H} {s n : Int} (hB : cm_B h s n) (hC : cp_C h) (hR : ∀ c : Nat, c < 10 → 0 ≤ h 8 c ∧ h 8 c ≤ 1000) : pg_Sem true pm_C_rarestPoint [.inr (.inr 6)] h (fun r h' => ∃ z : Int, (0 ≤ z ∧ z < n * n) ∧ r = some (.inl z) ∧ h' = h) := by
  obtain ⟨hs, ⟨hn1, hn2⟩, e1, e2, e3, e5⟩ := id hB
  have hr := mt_rd_or hs
  have hnn := mt_nn hn1 hn2
  refine pg_Sem_of pm_C_rarestPoint_f rfl ?_
  refine pg_go 4 (L := []) (st' := (4, [(0, .inr (.inr 6)), (1, .inl 0), (2, .inl 1)], [], h)) rfl trivial ?_
  exact cp_rare_l hB hC hR (n * n - 1).toNat _ _ (by omega) (by omega) (by omega)
theorem cp_put {h : pg_H} {n : Int} (hC : cp_C h) (hS : cp_S h n) (hn : n * n ≤ 144) {p c : Int} (hp : 0 ≤ p ∧ p < n * n) (hc : 0 ≤ c ∧ c ≤ 9) : pg_Sem true pm_C_put [.inr (.inr 6), .inl p, .inl c] h (fun r h' => r = some (.inl (if h 7 p.toNat = c then 0 else 1)) ∧ pg_fr [7, 8] h h' ∧ h' 7 = (fun q => if q = p.toNat then c else h 7 q) ∧ cp_S h' n ∧ (h 7 p.toNat = c → h' = h)) := by
  have h1 := hC p.toNat (by omega)
  refine pg_Sem_of pm_C_put_f rfl ?_
  refine pg_br 7 (L := [0 ≤ p ∧ p < (144 : Int)]) (P := pg_inR (h 7 p.toNat) ∧ pg_inR c) (c := ¬ (h 7 p.toNat) = c) (st1 := (14, [(0, .inr (.inr 6)), (1, .inl p), (2, .inl c), (3, .inl (h 7 p.toNat))], [], h)) (st2 := (12, [(0, .inr (.inr 6)), (1, .inl p), (2, .inl c), (3, .inl (h 7 p.toNat))], [], h)) rfl ⟨by omega, by omega⟩ ⟨⟨by omega, by omega⟩, ⟨by omega, by omega⟩⟩ (fun c_9_1 => ?_) (fun c_9_1 => ?_)
  · refine pg_re 22 (L := [0 ≤ (h 7 p.toNat) ∧ (h 7 p.toNat) < (10 : Int), 0 ≤ (h 7 p.toNat) ∧ (h 7 p.toNat) < (10 : Int), 0 ≤ c ∧ c < (10 : Int), 0 ≤ c ∧ c < (10 : Int), 0 ≤ p ∧ p < (144 : Int), 1 = 0 ∨ 1 = 1]) (r := some (.inl 1)) (h0 := pg_up (pg_up (pg_up h 8 ((h 7 p.toNat).toNat) ((h 8 ((h 7 p.toNat).toNat)) - 1)) 8 c.toNat (((pg_up h 8 ((h 7 p.toNat).toNat) ((h 8 ((h 7 p.toNat).toNat)) - 1)) 8 c.toNat) + 1)) 7 p.toNat c) rfl ⟨⟨by omega, by omega⟩, ⟨by omega, by omega⟩, ⟨by omega, by omega⟩, ⟨by omega, by omega⟩, ⟨by omega, by omega⟩, Or.inr rfl⟩ ?_
    refine ⟨by rw [if_neg (by omega)], pg_fr_up (pg_fr_up (pg_fr_up (pg_fr_rf _ _) (by decide) _ _) (by decide) _ _) (by decide) _ _, ?_, ?_, fun hz => absurd hz (by omega)⟩
    · funext q; rw [pg_up_at]; rfl
    · exact cp_S_put hS ⟨by omega, by omega⟩ ⟨by omega, by omega⟩ hc (by omega)
  · refine pg_re 1 (L := [0 = 0 ∨ 0 = 1]) (r := some (.inl 0)) (h0 := h) rfl (Or.inl rfl) ?_
    refine ⟨by rw [if_pos (by omega)], pg_fr_rf _ _, ?_, hS, fun _ => rfl⟩
    funext q
    split
    · rename_i e; rw [e]; omega
    · rfl
theorem cp_clear_2 {h : pg_H} {s n : Int} (hB : cm_B h s n) : ∀ (d : Nat) (g : pg_H) (j : Int) (hd : j + (d : Int) = 10) (hj : 0 ≤ j) (hf : pg_fr [7, 8] h g) (h7 : ∀ p : Nat, p < 144 → g 7 p = 0) (h8 : ∀ c : Nat, (c : Int) < j → g 8 c = 0), pg_Good true pm_C_clear (fun r h' => r = none ∧ pg_fr [7, 8] h h' ∧ (∀ p : Nat, p < 144 → h' 7 p = 0) ∧ ∀ c : Nat, c < 10 → h' 8 c = if c = 0 then n * n else 0) (24, [(0, .inr (.inr 6)), (1, .inl j)], [], g) := by
  intro d
  induction d with
  | zero =>
    intro g j hd hj hf h7 h8
    obtain ⟨hs, ⟨hn1, hn2⟩, e1, e2, e3, e5⟩ := id hB
    have hr := mt_rd_or hs
    have hBg := cm_B_fr hB hf (by decide) (by decide)
    refine pg_br 2 (L := []) (P := pg_inR j ∧ pg_inR 10) (c := 10 ≤ j) (st1 := (43, [(0, .inr (.inr 6)), (1, .inl j)], [], g)) (st2 := (30, [(0, .inr (.inr 6)), (1, .inl j)], [], g)) rfl trivial ⟨⟨by omega, by omega⟩, ⟨by decide, by decide⟩⟩ (fun c_27_1 => ?_) (fun c_27_1 => ?_)
    · refine pg_ca 5 (L := []) (Mc := pm_M_points) (as := [.inr (.inr 4)]) (h0 := g) (pc := 55) (lv := [(0, .inr (.inr 6)), (1, .inl j)]) (rest := [.inl 0, .inr (.inr 8)]) rfl trivial (cm_points hBg) ?_
      intro r_1 h_1 e_1; rw [e_1.1, e_1.2]
      refine pg_re 1 (L := [0 ≤ 0 ∧ 0 < (10 : Int)]) (r := none) (h0 := pg_up g 8 0 (n * n)) rfl ⟨by omega, by omega⟩ ?_
      refine ⟨rfl, pg_fr_up hf (by decide) _ _, h7, fun c hc => ?_⟩
      rw [pg_up_at]
      split
      · rfl
      · exact h8 c (by omega)
    · exact (by exfalso; omega)
  | succ d ih =>
    intro g j hd hj hf h7 h8
    obtain ⟨hs, ⟨hn1, hn2⟩, e1, e2, e3, e5⟩ := id hB
    have hr := mt_rd_or hs
    have hBg := cm_B_fr hB hf (by decide) (by decide)
    refine pg_br 2 (L := []) (P := pg_inR j ∧ pg_inR 10) (c := 10 ≤ j) (st1 := (43, [(0, .inr (.inr 6)), (1, .inl j)], [], g)) (st2 := (30, [(0, .inr (.inr 6)), (1, .inl j)], [], g)) rfl trivial ⟨⟨by omega, by omega⟩, ⟨by decide, by decide⟩⟩ (fun c_27_2 => ?_) (fun c_27_2 => ?_)
    · exact (by exfalso; omega)
    · refine pg_go 7 (L := [0 ≤ j ∧ j < (10 : Int)]) (st' := (24, [(0, .inr (.inr 6)), (1, .inl (j + 1))], [], pg_up g 8 j.toNat 0)) rfl ⟨by omega, by omega⟩ ?_
      refine ih _ _ (by omega) (by omega) (pg_fr_up hf (by decide) _ _) h7 (fun c hc => ?_)
      rw [pg_up_at]
      split
      · rfl
      · exact h8 c (by omega)
theorem cp_clear_1 {h : pg_H} {s n : Int} (hB : cm_B h s n) : ∀ (d : Nat) (g : pg_H) (j : Int) (hd : j + (d : Int) = 144) (hj : 0 ≤ j) (hf : pg_fr [7, 8] h g) (h7 : ∀ p : Nat, (p : Int) < j → g 7 p = 0), pg_Good true pm_C_clear (fun r h' => r = none ∧ pg_fr [7, 8] h h' ∧ (∀ p : Nat, p < 144 → h' 7 p = 0) ∧ ∀ c : Nat, c < 10 → h' 8 c = if c = 0 then n * n else 0) (2, [(0, .inr (.inr 6)), (1, .inl j)], [], g) := by
  intro d
  induction d with
  | zero =>
    intro g j hd hj hf h7
    refine pg_br 2 (L := []) (P := pg_inR j ∧ pg_inR 144) (c := 144 ≤ j) (st1 := (22, [(0, .inr (.inr 6)), (1, .inl j)], [], g)) (st2 := (9, [(0, .inr (.inr 6)), (1, .inl j)], [], g)) rfl trivial ⟨⟨by omega, by omega⟩, ⟨by decide, by decide⟩⟩ (fun c_6_1 => ?_) (fun c_6_1 => ?_)
    · refine pg_go 2 (L := []) (st' := (24, [(0, .inr (.inr 6)), (1, .inl 0)], [], g)) rfl trivial ?_
      exact cp_clear_2 hB 10 g _ (by omega) (by omega) hf (fun p hp => h7 p (by omega)) (fun c hc => by omega)
    · exact (by exfalso; omega)
  | succ d ih =>
    intro g j hd hj hf h7
    refine pg_br 2 (L := []) (P := pg_inR j ∧ pg_inR 144) (c := 144 ≤ j) (st1 := (22, [(0, .inr (.inr 6)), (1, .inl j)], [], g)) (st2 := (9, [(0, .inr (.inr 6)), (1, .inl j)], [], g)) rfl trivial ⟨⟨by omega, by omega⟩, ⟨by decide, by decide⟩⟩ (fun c_6_2 => ?_) (fun c_6_2 => ?_)
    · exact (by exfalso; omega)
    · refine pg_go 7 (L := [0 ≤ j ∧ j < (144 : Int)]) (st' := (2, [(0, .inr (.inr 6)), (1, .inl (j + 1))], [], pg_up g 7 j.toNat 0)) rfl ⟨by omega, by omega⟩ ?_
      refine ih _ _ (by omega) (by omega) (pg_fr_up hf (by decide) _ _) (fun c hc => ?_)
      rw [pg_up_at]
      split
      · rfl
      · exact h7 c (by omega)
theorem cp_clear {h : pg_H} {s n : Int} (hB : cm_B h s n) : pg_Sem true pm_C_clear [.inr (.inr 6)] h (fun r h' => r = none ∧ pg_fr [7, 8] h h' ∧ (∀ p : Nat, p < 144 → h' 7 p = 0) ∧ ∀ c : Nat, c < 10 → h' 8 c = if c = 0 then n * n else 0) := by
  refine pg_Sem_of pm_C_clear_f rfl ?_
  refine pg_go 2 (L := []) (st' := (2, [(0, .inr (.inr 6)), (1, .inl 0)], [], h)) rfl trivial ?_
  exact cp_clear_1 hB 144 h _ (by omega) (by omega) (pg_fr_rf _ _) (fun p hp => by omega)
