/-! the reference: ways -/
theorem ri_Wp_s {col : Nat → Int} {s n w : Int} {m : Nat} : ri_Wp col s n (m + 1) w ↔ ri_Wp col s n m w ∨ (mt_chg col s n ((m : Int) / (n * n)) ((m : Int) / n % n) ((m : Int) % n) ∧ ∃ im : Nat → Int, mt_img col s n ((m : Int) / (n * n)) ((m : Int) / n % n) ((m : Int) % n) im ∧ w = ri_wc im 10) := by
  constructor
  · rintro ⟨j, h1, h2⟩
    rcases (show j < m ∨ j = m by omega) with h | rfl
    · exact Or.inl ⟨j, h, h2⟩
    · exact Or.inr h2
  · rintro (⟨j, h1, h2⟩ | h)
    · exact ⟨j, by omega, h2⟩
    · exact ⟨m, by omega, h⟩
theorem ri_wc_eq {im im' : Nat → Int} {c : Nat} (h : ∀ j, j < c → im j = im' j) : ri_wc im c = ri_wc im' c := by
  induction c with
  | zero => rfl
  | succ c ih =>
    simp only [ri_wc]
    rw [ih (fun j hj => h j (by omega)), h c (by omega)]
/-- the ways up to move m, one more -/
theorem ri_WL_no {col : Nat → Int} {s n : Int} {m : Nat} {L : List Int} (hL : ri_WL col s n m L) (hn : ¬ mt_chg col s n ((m : Int) / (n * n)) ((m : Int) / n % n) ((m : Int) % n)) : ri_WL col s n (m + 1) L := by
  refine ⟨hL.1, fun w => ?_⟩
  rw [ri_Wp_s, hL.2 w]
  exact ⟨Or.inl, fun h => h.elim id (fun h => absurd h.1 hn)⟩
theorem ri_WL_old {col : Nat → Int} {s n : Int} {m : Nat} {L : List Int} {im : Nat → Int} (hL : ri_WL col s n m L) (hi : mt_img col s n ((m : Int) / (n * n)) ((m : Int) / n % n) ((m : Int) % n) im) (hw : ri_wc im 10 ∈ L) : ri_WL col s n (m + 1) L := by
  refine ⟨hL.1, fun w => ?_⟩
  rw [ri_Wp_s, hL.2 w]
  refine ⟨Or.inl, fun h => h.elim id (fun ⟨_, im', h1, h2⟩ => ?_)⟩
  rw [h2, ri_wc_eq (mt_img_u h1 hi)]
  exact (hL.2 _).mp hw
theorem ri_WL_new {col : Nat → Int} {s n : Int} {m : Nat} {L : List Int} {im : Nat → Int} (hL : ri_WL col s n m L) (hc : mt_chg col s n ((m : Int) / (n * n)) ((m : Int) / n % n) ((m : Int) % n)) (hi : mt_img col s n ((m : Int) / (n * n)) ((m : Int) / n % n) ((m : Int) % n) im) (hw : ri_wc im 10 ∉ L) : ri_WL col s n (m + 1) (L ++ [ri_wc im 10]) := by
  refine ⟨?_, fun w => ?_⟩
  · rw [List.nodup_append]
    refine ⟨hL.1, by simp, fun a ha b hb => ?_⟩
    rw [List.mem_singleton.mp hb]
    exact fun e => hw (by rw [← e]; exact ha)
  · rw [ri_Wp_s, List.mem_append, List.mem_singleton, hL.2 w]
    constructor
    · rintro (h | h)
      · exact Or.inl h
      · exact Or.inr ⟨hc, im, hi, h⟩
    · rintro (h | ⟨_, im', h1, h2⟩)
      · exact Or.inl h
      · right
        rw [h2, ri_wc_eq (mt_img_u h1 hi)]
def ri_WA (g : pg_H) (L : List Int) : Prop := (∀ (j : Nat) (x : Int), L[j]? = some x → g 14 j = x) ∧ ∀ x ∈ L, 0 ≤ x ∧ x < 25937424601
theorem ri_WA_fr {cs fs : List Nat} {g g' : pg_H} {L : List Int} (hS : ri_WA g L) (hf : rf cs fs g g') (h : 14 ∉ cs) : ri_WA g' L := by
  unfold ri_WA
  rw [hf.1 14 (by decide) h]
  exact hS
theorem ri_WA_new {g : pg_H} {L : List Int} {w : Int} (hS : ri_WA g L) (hw : 0 ≤ w ∧ w < 25937424601) : ri_WA (pg_up g 14 L.length w) (L ++ [w]) := by
  refine ⟨fun j x hx => ?_, fun x hx => ?_⟩
  · rw [pg_up_at]
    by_cases hj : j = L.length
    · rw [if_pos hj]
      rw [hj, List.getElem?_append_right (Nat.le_refl _)] at hx
      simp at hx
      exact hx
    · rw [if_neg hj]
      have hl : j < L.length := by
        have := (List.getElem?_eq_some_iff.mp hx).1
        simp at this
        omega
      rw [List.getElem?_append_left hl] at hx
      exact hS.1 j x hx
  · rcases List.mem_append.mp hx with h | h
    · exact hS.2 x h
    · rw [List.mem_singleton.mp h]; exact hw
set_option maxRecDepth 20000 in
set_option maxHeartbeats 4000000 in
theorem re_w_s {g0 g : pg_H} {s n : Int} (hn : 1 ≤ n ∧ n ≤ 12) (hf : rf [13, 14] [15, 16] g0 g) {m f : Int} (hm : 0 ≤ m ∧ m < 1728) {L : List Int} (hL : ri_WL (g0 1) s n m.toNat L) (hA : ri_WA g L) (hfl : f = L.length) (hle : (L.length : Int) ≤ m) (hch : mt_chg (g0 1) s n (m / (n * n)) (m / n % n) (m % n)) (him : mt_img (g0 1) s n (m / (n * n)) (m / n % n) (m % n) (g 13)) (hb : ∀ c : Nat, c < 10 → -1 ≤ g 13 c ∧ g 13 c ≤ 9) (hK : ∀ (g2 : pg_H) (f2 : Int) (L2 : List Int), rf [13, 14] [15, 16] g0 g2 → ri_WL (g0 1) s n (m + 1).toNat L2 → ri_WA g2 L2 → f2 = L2.length → (L2.length : Int) ≤ m + 1 → pg_Good false pm_T_ways (fun r h' => ∃ (g' : pg_H) (L : List Int), h' = rm g' s n ∧ rf [13, 14] [15, 16] g0 g' ∧ r = some (.inl (L.length : Int)) ∧ ri_WL (g0 1) s n (2 * mt_rd s * (n * n)).toNat L) (4, [(0, .inr (.inr 0)), (1, .inl f2), (2, .inl (m + 1))], [], rm g2 s n)) : ∀ (d : Nat) (e a : Int) (hd : a + (d : Int) = f) (ha : 0 ≤ a) (hI : (e = 1 ∧ ∀ (j : Nat) (x : Int), (j : Int) < a → L[j]? = some x → x ≠ ri_wc (g 13) 10) ∨ (e = 0 ∧ ri_wc (g 13) 10 ∈ L)), pg_Good false pm_T_ways (fun r h' => ∃ (g' : pg_H) (L : List Int), h' = rm g' s n ∧ rf [13, 14] [15, 16] g0 g' ∧ r = some (.inl (L.length : Int)) ∧ ri_WL (g0 1) s n (2 * mt_rd s * (n * n)).toNat L) (87, [(0, .inr (.inr 0)), (1, .inl f), (2, .inl m), (3, .inr (.inl (ri_wc (g 13) 10))), (5, .inl e), (6, .inl a)], [], rm g s n) := by
  intro d
  induction d with
  | zero =>
    intro e a hd ha hI
    have hwb := ri_wc_bd hb
    have ew : (11 : Int) ^ 10 = 25937424601 := by decide
    rw [ew] at hwb
    have em : ((m.toNat : Nat) : Int) = m := by omega
    have ek : (m + 1).toNat = m.toNat + 1 := by omega
    refine pg_br 2 (L := []) (P := pg_inR a ∧ pg_inR f) (c := f ≤ a) (st1 := (123, [(0, .inr (.inr 0)), (1, .inl f), (2, .inl m), (3, .inr (.inl (ri_wc (g 13) 10))), (5, .inl e), (6, .inl a)], [], rm g s n)) (st2 := (93, [(0, .inr (.inr 0)), (1, .inl f), (2, .inl m), (3, .inr (.inl (ri_wc (g 13) 10))), (5, .inl e), (6, .inl a)], [], rm g s n)) rfl trivial ⟨⟨by omega, by omega⟩, ⟨by omega, by omega⟩⟩ (fun c_90_1 => ?_) (fun c_90_1 => ?_)
    · refine pg_br 1 (L := []) (P := pg_inR e) (c := e = 0) (st1 := (138, [(0, .inr (.inr 0)), (1, .inl f), (2, .inl m), (3, .inr (.inl (ri_wc (g 13) 10))), (5, .inl e), (6, .inl a)], [], rm g s n)) (st2 := (128, [(0, .inr (.inr 0)), (1, .inl f), (2, .inl m), (3, .inr (.inl (ri_wc (g 13) 10))), (5, .inl e), (6, .inl a)], [], rm g s n)) rfl trivial ⟨by omega, by omega⟩ (fun c_125_2 => ?_) (fun c_125_2 => ?_)
      · refine pg_go 2 (L := []) (st' := (4, [(0, .inr (.inr 0)), (1, .inl f), (2, .inl (m + 1)), (3, .inr (.inl (ri_wc (g 13) 10))), (5, .inl e), (6, .inl a)], [], rm g s n)) rfl trivial ?_
        refine pg_pick [0, 1, 2] rfl ?_
        refine hK _ _ L hf ?_ hA hfl (by omega)
        rw [ek]
        refine ri_WL_old hL (by rw [em]; exact him) ?_
        rcases hI with h1 | h1
        · exfalso; omega
        · exact h1.2
      · refine pg_go 8 (L := [0 ≤ f ∧ f < (1728 : Int)]) (st' := (4, [(0, .inr (.inr 0)), (1, .inl (f + 1)), (2, .inl (m + 1)), (3, .inr (.inl (ri_wc (g 13) 10))), (5, .inl e), (6, .inl a)], [], pg_up (rm g s n) 14 f.toNat (ri_wc (g 13) 10))) rfl ⟨by omega, by omega⟩ ?_
        rw [rm_upq (q := 14) (by decide)]
        refine pg_pick [0, 1, 2] rfl ?_
        refine hK _ _ (L ++ [ri_wc (g 13) 10]) (rf_q hf (by decide) (by decide) _ _) ?_ ?_ (by simp; omega) (by simp; omega)
        · rw [ek]
          refine ri_WL_new hL (by rw [em]; exact hch) (by rw [em]; exact him) ?_
          rcases hI with h1 | h1
          · intro hmem
            obtain ⟨j, hj1, hj2⟩ := List.mem_iff_getElem.mp hmem
            exact h1.2 j _ (by omega) (List.getElem?_eq_some_iff.mpr ⟨hj1, rfl⟩) hj2
          · exfalso; omega
        · rw [show f.toNat = L.length by omega]; exact ri_WA_new hA hwb
    · exact (by exfalso; omega)
  | succ d ih =>
    intro e a hd ha hI
    have hwb := ri_wc_bd hb
    have ew : (11 : Int) ^ 10 = 25937424601 := by decide
    rw [ew] at hwb
    have em : ((m.toNat : Nat) : Int) = m := by omega
    have ek : (m + 1).toNat = m.toNat + 1 := by omega
    have hja : a.toNat < L.length := by omega
    have hxa : L[a.toNat]? = some L[a.toNat] := List.getElem?_eq_some_iff.mpr ⟨hja, rfl⟩
    have hga := hA.1 _ _ hxa
    have hgb := hA.2 _ (List.mem_of_getElem? hxa)
    rw [← hga] at hgb
    have hcm := pg_cmp_or (g 14 a.toNat) (ri_wc (g 13) 10)
    refine pg_br 2 (L := []) (P := pg_inR a ∧ pg_inR f) (c := f ≤ a) (st1 := (123, [(0, .inr (.inr 0)), (1, .inl f), (2, .inl m), (3, .inr (.inl (ri_wc (g 13) 10))), (5, .inl e), (6, .inl a)], [], rm g s n)) (st2 := (93, [(0, .inr (.inr 0)), (1, .inl f), (2, .inl m), (3, .inr (.inl (ri_wc (g 13) 10))), (5, .inl e), (6, .inl a)], [], rm g s n)) rfl trivial ⟨⟨by omega, by omega⟩, ⟨by omega, by omega⟩⟩ (fun c_90_3 => ?_) (fun c_90_3 => ?_)
    · exact (by exfalso; omega)
    · refine pg_br 1 (L := []) (P := pg_inR e) (c := e = 0) (st1 := (114, [(0, .inr (.inr 0)), (1, .inl f), (2, .inl m), (3, .inr (.inl (ri_wc (g 13) 10))), (5, .inl e), (6, .inl a)], [], rm g s n)) (st2 := (98, [(0, .inr (.inr 0)), (1, .inl f), (2, .inl m), (3, .inr (.inl (ri_wc (g 13) 10))), (5, .inl e), (6, .inl a)], [], rm g s n)) rfl trivial ⟨by omega, by omega⟩ (fun c_95_4 => ?_) (fun c_95_4 => ?_)
      · refine pg_go 4 (L := []) (st' := (87, [(0, .inr (.inr 0)), (1, .inl f), (2, .inl m), (3, .inr (.inl (ri_wc (g 13) 10))), (5, .inl 0), (6, .inl (a + 1))], [], rm g s n)) rfl trivial ?_
        refine ih _ _ (by omega) (by omega) ?_
        refine Or.inr ⟨rfl, ?_⟩
        rcases hI with h1 | h1
        · rw [show ri_wc (g 13) 10 = L[a.toNat] by omega]; exact List.getElem_mem hja
        · exact h1.2
      · refine pg_br 6 (L := [0 ≤ a ∧ a < (1728 : Int), pg_inL (g 14 a.toNat) ∧ pg_inL (ri_wc (g 13) 10)]) (P := pg_inR (pg_cmp (g 14 a.toNat) (ri_wc (g 13) 10))) (c := (pg_cmp (g 14 a.toNat) (ri_wc (g 13) 10)) = 0) (st1 := (114, [(0, .inr (.inr 0)), (1, .inl f), (2, .inl m), (3, .inr (.inl (ri_wc (g 13) 10))), (5, .inl e), (6, .inl a)], [], rm g s n)) (st2 := (110, [(0, .inr (.inr 0)), (1, .inl f), (2, .inl m), (3, .inr (.inl (ri_wc (g 13) 10))), (5, .inl e), (6, .inl a)], [], rm g s n)) rfl ⟨⟨by omega, by omega⟩, ⟨⟨by omega, by omega⟩, ⟨by omega, by omega⟩⟩⟩ ⟨by omega, by omega⟩ (fun c_107_5 => ?_) (fun c_107_5 => ?_)
        · refine pg_go 4 (L := []) (st' := (87, [(0, .inr (.inr 0)), (1, .inl f), (2, .inl m), (3, .inr (.inl (ri_wc (g 13) 10))), (5, .inl 0), (6, .inl (a + 1))], [], rm g s n)) rfl trivial ?_
          refine ih _ _ (by omega) (by omega) ?_
          refine Or.inr ⟨rfl, ?_⟩
          rcases hI with h1 | h1
          · rw [show ri_wc (g 13) 10 = L[a.toNat] by omega]; exact List.getElem_mem hja
          · exact h1.2
        · refine pg_go 5 (L := []) (st' := (87, [(0, .inr (.inr 0)), (1, .inl f), (2, .inl m), (3, .inr (.inl (ri_wc (g 13) 10))), (5, .inl 1), (6, .inl (a + 1))], [], rm g s n)) rfl trivial ?_
          refine ih _ _ (by omega) (by omega) ?_
          rcases hI with h1 | h1
          · refine Or.inl ⟨rfl, fun j x h2 h3 => ?_⟩
            rcases (show (j : Int) < a ∨ j = a.toNat by omega) with h4 | rfl
            · exact h1.2 j x h4 h3
            · rw [hxa] at h3; rw [← Option.some.inj h3, ← hga]; omega
          · exfalso; omega
theorem re_w_c {g0 g : pg_H} {s n : Int} (hn : 1 ≤ n ∧ n ≤ 12) (hf : rf [13, 14] [15, 16] g0 g) {m f : Int} (hm : 0 ≤ m ∧ m < 1728) {L : List Int} (hL : ri_WL (g0 1) s n m.toNat L) (hA : ri_WA g L) (hfl : f = L.length) (hle : (L.length : Int) ≤ m) (hch : mt_chg (g0 1) s n (m / (n * n)) (m / n % n) (m % n)) (him : mt_img (g0 1) s n (m / (n * n)) (m / n % n) (m % n) (g 13)) (hb : ∀ c : Nat, c < 10 → -1 ≤ g 13 c ∧ g 13 c ≤ 9) (hK : ∀ (g2 : pg_H) (f2 : Int) (L2 : List Int), rf [13, 14] [15, 16] g0 g2 → ri_WL (g0 1) s n (m + 1).toNat L2 → ri_WA g2 L2 → f2 = L2.length → (L2.length : Int) ≤ m + 1 → pg_Good false pm_T_ways (fun r h' => ∃ (g' : pg_H) (L : List Int), h' = rm g' s n ∧ rf [13, 14] [15, 16] g0 g' ∧ r = some (.inl (L.length : Int)) ∧ ri_WL (g0 1) s n (2 * mt_rd s * (n * n)).toNat L) (4, [(0, .inr (.inr 0)), (1, .inl f2), (2, .inl (m + 1))], [], rm g2 s n)) : ∀ (d : Nat) (w c : Int) (hd : c + (d : Int) = 10) (hc : 0 ≤ c) (hw : w = ri_wc (g 13) c.toNat), pg_Good false pm_T_ways (fun r h' => ∃ (g' : pg_H) (L : List Int), h' = rm g' s n ∧ rf [13, 14] [15, 16] g0 g' ∧ r = some (.inl (L.length : Int)) ∧ ri_WL (g0 1) s n (2 * mt_rd s * (n * n)).toNat L) (51, [(0, .inr (.inr 0)), (1, .inl f), (2, .inl m), (3, .inr (.inl w)), (5, .inl c)], [], rm g s n) := by
  intro d
  induction d with
  | zero =>
    intro w c hd hc hw
    have hwb := ri_wc_bd hb
    have ew : (11 : Int) ^ 10 = 25937424601 := by decide
    rw [ew] at hwb
    have em : ((m.toNat : Nat) : Int) = m := by omega
    have ek : (m + 1).toNat = m.toNat + 1 := by omega
    refine pg_br 2 (L := []) (P := pg_inR c ∧ pg_inR 10) (c := 10 ≤ c) (st1 := (81, [(0, .inr (.inr 0)), (1, .inl f), (2, .inl m), (3, .inr (.inl w)), (5, .inl c)], [], rm g s n)) (st2 := (58, [(0, .inr (.inr 0)), (1, .inl f), (2, .inl m), (3, .inr (.inl w)), (5, .inl c)], [], rm g s n)) rfl trivial ⟨⟨by omega, by omega⟩, ⟨by decide, by decide⟩⟩ (fun c_55_1 => ?_) (fun c_55_1 => ?_)
    · refine pg_go 4 (L := []) (st' := (87, [(0, .inr (.inr 0)), (1, .inl f), (2, .inl m), (3, .inr (.inl w)), (5, .inl 1), (6, .inl 0)], [], rm g s n)) rfl trivial ?_
      rw [hw, show c.toNat = 10 by omega]
      exact re_w_s hn hf hm hL hA hfl hle hch him hb hK f.toNat 1 0 (by omega) (by omega) (Or.inl ⟨rfl, fun j x h1 h2 => absurd h1 (by omega)⟩)
    · exact (by exfalso; omega)
  | succ d ih =>
    intro w c hd hc hw
    have hwb := ri_wc_bd hb
    have ew : (11 : Int) ^ 10 = 25937424601 := by decide
    rw [ew] at hwb
    have em : ((m.toNat : Nat) : Int) = m := by omega
    have ek : (m + 1).toNat = m.toNat + 1 := by omega
    have hbc := hb c.toNat (by omega)
    have ec : (c + 1).toNat = c.toNat + 1 := by omega
    refine pg_br 2 (L := []) (P := pg_inR c ∧ pg_inR 10) (c := 10 ≤ c) (st1 := (81, [(0, .inr (.inr 0)), (1, .inl f), (2, .inl m), (3, .inr (.inl w)), (5, .inl c)], [], rm g s n)) (st2 := (58, [(0, .inr (.inr 0)), (1, .inl f), (2, .inl m), (3, .inr (.inl w)), (5, .inl c)], [], rm g s n)) rfl trivial ⟨⟨by omega, by omega⟩, ⟨by decide, by decide⟩⟩ (fun c_55_2 => ?_) (fun c_55_2 => ?_)
    · exact (by exfalso; omega)
    · refine pg_go 14 (L := [0 ≤ c ∧ c < (10 : Int), pg_inR (g 13 c.toNat)]) (st' := (51, [(0, .inr (.inr 0)), (1, .inl f), (2, .inl m), (3, .inr (.inl (((11 * w) + (g 13 c.toNat)) + 1))), (5, .inl (c + 1))], [], rm g s n)) rfl ⟨⟨by omega, by omega⟩, ⟨by omega, by omega⟩⟩ ?_
      refine ih _ _ (by omega) (by omega) ?_
      rw [ec]
      simp only [ri_wc]
      rw [hw]
set_option maxRecDepth 20000 in
set_option maxHeartbeats 4000000 in
theorem re_w_m {g0 : pg_H} {s n : Int} (hB0 : rm_B g0 s n) (hC0 : ri_C g0) : ∀ (d : Nat) (g : pg_H) (f m : Int) (L : List Int) (hd : m + (d : Int) = 2 * mt_rd s * (n * n)) (hm : 0 ≤ m) (hf : rf [13, 14] [15, 16] g0 g) (hL : ri_WL (g0 1) s n m.toNat L) (hA : ri_WA g L) (hfl : f = L.length) (hle : (L.length : Int) ≤ m), pg_Good false pm_T_ways (fun r h' => ∃ (g' : pg_H) (L : List Int), h' = rm g' s n ∧ rf [13, 14] [15, 16] g0 g' ∧ r = some (.inl (L.length : Int)) ∧ ri_WL (g0 1) s n (2 * mt_rd s * (n * n)).toNat L) (4, [(0, .inr (.inr 0)), (1, .inl f), (2, .inl m)], [], rm g s n) := by
  intro d
  induction d with
  | zero =>
    intro g f m L hd hm hf hL hA hfl hle
    have hB := rm_B_fr hB0 hf (by decide)
    have hC := ri_C_fr hC0 hf (by decide)
    obtain ⟨hs, hn, -⟩ := id hB
    obtain ⟨hn1, hn2⟩ := id hn
    have hr := mt_rd_or hs
    have e1 : g 1 = g0 1 := hf.1 1 (by decide) (by decide)
    have hN := mt_2rn hs hn
    have eN : 2 * mt_rd s * n * n = 2 * mt_rd s * (n * n) := Int.mul_assoc _ _ _
    refine pg_ca 3 (L := []) (Mc := pm_T_round) (as := [.inr (.inr 0)]) (h0 := rm g s n) (pc := 10) (lv := [(0, .inr (.inr 0)), (1, .inl f), (2, .inl m)]) (rest := [.inl 2, .inl m]) rfl trivial (re_round (g := g) (n := n) hs) ?_
    intro r_1 h_1 e_1; rw [e_1.1, e_1.2]
    refine pg_br 7 (L := []) (P := pg_inR m ∧ pg_inR (((2 * (mt_rd s)) * n) * n)) (c := (((2 * (mt_rd s)) * n) * n) ≤ m) (st1 := (144, [(0, .inr (.inr 0)), (1, .inl f), (2, .inl m)], [], rm g s n)) (st2 := (24, [(0, .inr (.inr 0)), (1, .inl f), (2, .inl m)], [], rm g s n)) rfl trivial ⟨⟨by omega, by omega⟩, ⟨by omega, by omega⟩⟩ (fun c_21_1 => ?_) (fun c_21_1 => ?_)
    · refine pg_re 1 (L := []) (r := some (.inl f)) (h0 := rm g s n) rfl trivial ?_
      refine ⟨g, L, rfl, hf, by rw [hfl], ?_⟩
      rw [show 2 * mt_rd s * (n * n) = m by omega]; exact hL
    · exact (by exfalso; omega)
  | succ d ih =>
    intro g f m L hd hm hf hL hA hfl hle
    have hB := rm_B_fr hB0 hf (by decide)
    have hC := ri_C_fr hC0 hf (by decide)
    obtain ⟨hs, hn, -⟩ := id hB
    obtain ⟨hn1, hn2⟩ := id hn
    have hr := mt_rd_or hs
    have e1 : g 1 = g0 1 := hf.1 1 (by decide) (by decide)
    have hN := mt_2rn hs hn
    have eN : 2 * mt_rd s * n * n = 2 * mt_rd s * (n * n) := Int.mul_assoc _ _ _
    have hka := mt_kof hn1 (show 0 ≤ m ∧ m < 2 * mt_rd s * (n * n) by omega)
    have hua := mt_mod hn1 (m / n)
    have hva := mt_mod hn1 m
    have ek : (m + 1).toNat = m.toNat + 1 := by omega
    have em : ((m.toNat : Nat) : Int) = m := by omega
    refine pg_ca 3 (L := []) (Mc := pm_T_round) (as := [.inr (.inr 0)]) (h0 := rm g s n) (pc := 10) (lv := [(0, .inr (.inr 0)), (1, .inl f), (2, .inl m)]) (rest := [.inl 2, .inl m]) rfl trivial (re_round (g := g) (n := n) hs) ?_
    intro r_1 h_1 e_1; rw [e_1.1, e_1.2]
    refine pg_br 7 (L := []) (P := pg_inR m ∧ pg_inR (((2 * (mt_rd s)) * n) * n)) (c := (((2 * (mt_rd s)) * n) * n) ≤ m) (st1 := (144, [(0, .inr (.inr 0)), (1, .inl f), (2, .inl m)], [], rm g s n)) (st2 := (24, [(0, .inr (.inr 0)), (1, .inl f), (2, .inl m)], [], rm g s n)) rfl trivial ⟨⟨by omega, by omega⟩, ⟨by omega, by omega⟩⟩ (fun c_21_2 => ?_) (fun c_21_2 => ?_)
    · exact (by exfalso; omega)
    · refine pg_ca 3 (L := []) (Mc := pm_T_kOf) (as := [.inr (.inr 0), .inl m]) (h0 := rm g s n) (pc := 30) (lv := [(0, .inr (.inr 0)), (1, .inl f), (2, .inl m)]) (rest := [.inr (.inr 0)]) rfl trivial (re_kOf (g := g) (s := s) hn m ⟨by omega, by omega⟩) ?_
      intro r_1 h_1 e_1; rw [e_1.1, e_1.2]
      refine pg_ca 2 (L := []) (Mc := pm_T_uOf) (as := [.inr (.inr 0), .inl m]) (h0 := rm g s n) (pc := 35) (lv := [(0, .inr (.inr 0)), (1, .inl f), (2, .inl m)]) (rest := [.inl (m / (n * n)), .inr (.inr 0)]) rfl trivial (re_uOf (g := g) (s := s) hn m ⟨by omega, by omega⟩) ?_
      intro r_1 h_1 e_1; rw [e_1.1, e_1.2]
      refine pg_ca 2 (L := []) (Mc := pm_T_vOf) (as := [.inr (.inr 0), .inl m]) (h0 := rm g s n) (pc := 40) (lv := [(0, .inr (.inr 0)), (1, .inl f), (2, .inl m)]) (rest := [.inl (m / n % n), .inl (m / (n * n)), .inr (.inr 0)]) rfl trivial (re_vOf (g := g) (s := s) hn m ⟨by omega, by omega⟩) ?_
      intro r_1 h_1 e_1; rw [e_1.1, e_1.2]
      refine pg_ca 0 (L := []) (Mc := pm_T_isChange) (as := [.inr (.inr 0), .inl (m / (n * n)), .inl (m / n % n), .inl (m % n)]) (h0 := rm g s n) (pc := 43) (lv := [(0, .inr (.inr 0)), (1, .inl f), (2, .inl m)]) (rest := []) rfl trivial (re_isChange (g := g) hB hC (m / (n * n)) (m / n % n) (m % n) ⟨by omega, by omega⟩ ⟨by omega, by omega⟩ ⟨by omega, by omega⟩) ?_
      intro r_1 h_1 e_1; obtain ⟨g20, z20, er_, eh_, ef20, ez20⟩ := e_1; rw [er_, eh_]; have hB20 := rm_B_fr hB ef20 (by decide); have hC20 := ri_C_fr hC ef20 (by decide)
      refine pg_br 0 (L := []) (P := pg_inR z20) (c := z20 = 0) (st1 := (138, [(0, .inr (.inr 0)), (1, .inl f), (2, .inl m)], [], rm g20 s n)) (st2 := (46, [(0, .inr (.inr 0)), (1, .inl f), (2, .inl m)], [], rm g20 s n)) rfl trivial ⟨by omega, by omega⟩ (fun c_43_3 => ?_) (fun c_43_3 => ?_)
      · refine pg_go 2 (L := []) (st' := (4, [(0, .inr (.inr 0)), (1, .inl f), (2, .inl (m + 1))], [], rm g20 s n)) rfl trivial ?_
        rw [e1] at ez20
        rcases ez20 with ⟨d1, d2, d3⟩ | ⟨d1, d2⟩
        · exfalso; omega
        · refine ih _ _ _ L (by omega) (by omega) (rf_tr hf ef20 (by decide) (by decide)) ?_ (ri_WA_fr hA ef20 (by decide)) hfl (by omega)
          rw [ek]
          exact ri_WL_no hL (by rw [em]; exact d2)
      · refine pg_go 4 (L := []) (st' := (51, [(0, .inr (.inr 0)), (1, .inl f), (2, .inl m), (3, .inr (.inl 0)), (5, .inl 0)], [], rm g20 s n)) rfl trivial ?_
        have hf2 := rf_tr hf ef20 (by decide) (by decide)
        rw [e1] at ez20
        rcases ez20 with ⟨d1, d2, d3⟩ | ⟨d1, d2⟩
        · have hb2 := mt_img_bd hn hC0 d3
          exact re_w_c hn hf2 (m := m) (f := f) (L := L) ⟨hm, by omega⟩ hL (ri_WA_fr hA ef20 (by decide)) hfl hle d2 d3 hb2 (fun g2 f2 L2 k1 k2 k3 k4 k5 => ih g2 f2 _ L2 (by omega) (by omega) k1 k2 k3 k4 k5) 10 0 0 (by omega) (by omega) rfl
        · exfalso; omega
theorem re_ways {g : pg_H} {s n : Int} (hB : rm_B g s n) (hC : ri_C g) : pg_Sem false pm_T_ways [.inr (.inr 0)] (rm g s n) (fun r h' => ∃ (g' : pg_H) (L : List Int), h' = rm g' s n ∧ rf [13, 14] [15, 16] g g' ∧ r = some (.inl (L.length : Int)) ∧ ri_WL (g 1) s n (2 * mt_rd s * (n * n)).toNat L) := by
  obtain ⟨hs, hn, hT⟩ := id hB
  obtain ⟨hn1, hn2⟩ := id hn
  have hr := mt_rd_or hs
  have hN := mt_2rn hs hn
  refine pg_Sem_of pm_T_ways_f rfl ?_
  refine pg_go 4 (L := []) (st' := (4, [(0, .inr (.inr 0)), (1, .inl 0), (2, .inl 0)], [], rm g s n)) rfl trivial ?_
  refine re_w_m hB hC (2 * mt_rd s * (n * n)).toNat g 0 0 [] (by omega) (by omega) (rf_rf _ _ _) ⟨List.nodup_nil, fun w => ?_⟩ ⟨fun j x h => by simp at h, fun x h => by cases h⟩ rfl (by simp)
  constructor
  · intro h; cases h
  · rintro ⟨j, h, _⟩; exact absurd h (by simp)
