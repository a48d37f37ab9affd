/-! Generators: paintFrom, paintAlike -/
theorem pg_cn_one {P P' : Nat → Prop} {z m : Nat} (hz : z < m) (hn : ¬ P z) (he : ∀ q, q ≠ z → (P' q ↔ P q)) : pg_cn P' m = pg_cn P m + pg_b (P' z) := by
  induction m with
  | zero => omega
  | succ m ih =>
    simp only [pg_cn]
    rcases (show z < m ∨ z = m by omega) with h | rfl
    · rw [ih h, pg_b_iff (he m (by omega))]
      omega
    · rw [pg_b_f hn, pg_cn_congr (fun j hj => he j (by omega))]
      omega
theorem pg_cn_le {P : Nat → Prop} {m k : Nat} (hP : ∀ j, j < m → P j → j < k) : pg_cn P m ≤ k := by
  induction m with
  | zero => exact Int.natCast_nonneg _
  | succ m ih =>
    simp only [pg_cn]
    rcases Classical.em (P m) with h | h
    · have h1 := hP m (by omega) h
      have h2 := pg_cn_bd P m
      rw [pg_b_t h]
      omega
    · rw [pg_b_f h]
      have := ih (fun j hj => hP j (by omega))
      omega
theorem rc_L_le {g : pg_H} {L : List Int} {m : Int} (hL : rc_L g L) (hb : ∀ x ∈ L, 0 ≤ x ∧ x < m) (hm : 0 ≤ m) : g 1 2 ≤ m := by
  rw [hL.1.1.2]
  have hq : ∀ j, j < 5184 → g 2 j = 1 → j < m.toNat := fun j hj hz => by
    have h1 := hb _ ((hL.2.2.2 j (by omega) (by omega)).mp (by rw [show (j : Int).toNat = j by omega]; exact hz))
    omega
  have h1 := pg_cn_le hq
  rw [Int.toNat_of_nonneg hm] at h1
  exact h1
def gp_S (h : pg_H) (s n x : Int) : List Int := (List.range (h 20 4).toNat).map (fun j => mt_go s n (h 21 j) x)
theorem mt_go_bd {s n a p : Int} (hn : 1 ≤ n ∧ n ≤ 12) : 0 ≤ mt_go s n a p ∧ mt_go s n a p < n * n := by
  have := mt_tg_bd (s := s) (k := a / (n * n)) (u := a / n % n) (v := a % n) (x := p % n) (y := p / n) hn.1 hn.2
  exact ⟨this.1, this.2.1⟩
/-- colours so far: those reached since L0 have c; f of them changed -/
def gp_C (h g : pg_H) (n c f : Int) (L0 L : List Int) : Prop := (∀ q : Nat, (q : Int) < n * n → g 7 q = pg_if ((q : Int) ∈ L ∧ (q : Int) ∉ L0) c (h 7 q)) ∧ f = pg_cn (fun q => ((q : Int) ∈ L ∧ (q : Int) ∉ L0) ∧ h 7 q ≠ c) (n * n).toNat ∧ (f = 0 → g 7 = h 7 ∧ g 8 = h 8)
def gp_B (g : pg_H) (n : Int) (L : List Int) : Prop := cp_C g ∧ cp_S g n ∧ rc_L g L ∧ ∀ x ∈ L, 0 ≤ x ∧ x < n * n
theorem gp_C_new {h g g' : pg_H} {n c f z : Int} {L0 L : List Int} (hC : gp_C h g n c f L0 L) (hz : 0 ≤ z ∧ z < n * n) (hnew : z ∉ L) (hsub : ∀ x ∈ L0, x ∈ L) (e7 : g' 7 = (fun q => if q = z.toNat then c else g 7 q)) (e0 : g 7 z.toNat = c → g' 7 = g 7 ∧ g' 8 = g 8) : gp_C h g' n c (f + (if g 7 z.toNat = c then 0 else 1)) L0 (L ++ [z]) := by
  obtain ⟨h1, h2, h0⟩ := hC
  have hf0 : 0 ≤ f := by rw [h2]; exact (pg_cn_bd _ _).1
  have hz0 : z ∉ L0 := fun hh => hnew (hsub z hh)
  have ez : ((z.toNat : Nat) : Int) = z := by omega
  refine ⟨fun q hq => ?_, ?_, fun hz => ?_⟩
  · rw [e7]
    show (if q = z.toNat then c else g 7 q) = _
    by_cases hc : q = z.toNat
    · rw [if_pos hc, hc, ez, pg_if_t ⟨by simp, hz0⟩]
    · rw [if_neg hc, h1 q hq]
      have hiff : ((q : Int) ∈ L ++ [z] ∧ (q : Int) ∉ L0) ↔ ((q : Int) ∈ L ∧ (q : Int) ∉ L0) := by
        simp
        intro _ hh
        exact absurd hh (by omega)
      rcases Classical.em ((q : Int) ∈ L ∧ (q : Int) ∉ L0) with hh | hh
      · rw [pg_if_t hh, pg_if_t (hiff.mpr hh)]
      · rw [pg_if_f hh, pg_if_f (fun hw => hh (hiff.mp hw))]
  · have hg : g 7 z.toNat = h 7 z.toNat := by
      rw [h1 z.toNat (by omega), pg_if_f (fun hh => hnew (by rw [ez] at hh; exact hh.1))]
    rw [pg_cn_one (P := fun q => ((q : Int) ∈ L ∧ (q : Int) ∉ L0) ∧ h 7 q ≠ c) (z := z.toNat) (by omega) (fun hh => hnew (by rw [ez] at hh; exact hh.1.1)) (fun q hq => by
      have : (q : Int) ≠ z := by omega
      simp [this]), ← h2, hg]
    by_cases hc : h 7 z.toNat = c
    · rw [if_pos hc, pg_b_f (fun hh => hh.2 hc)]
    · rw [if_neg hc, pg_b_t ⟨⟨by rw [ez]; simp, by rw [ez]; exact hz0⟩, hc⟩]
  · by_cases hc : g 7 z.toNat = c
    · rw [if_pos hc] at hz
      have a := e0 hc
      have b := h0 (by omega)
      exact ⟨a.1.trans b.1, a.2.trans b.2⟩
    · rw [if_neg hc] at hz
      omega
set_option maxHeartbeats 8000000 in
theorem gp_pf_b {h : pg_H} {s n : Int} (hB : cm_B h s n) (hG : gn_I h s n) {c : Int} (hc : 0 ≤ c ∧ c ≤ 9) {L0 LL : List Int} {a x : Int} {L : List Int} (ha : 0 ≤ a ∧ a < 144) (hxb : 0 ≤ x ∧ x < n * n) : ∀ (d : Nat) (g : pg_H) (f b : Int) (Lc : List Int) (hd : b + (d : Int) = h 20 4) (hb : 0 ≤ b) (hf : pg_fr [1, 2, 3, 7, 8] h g) (hP : gp_B g n Lc) (hC : gp_C h g n c f L0 Lc) (hsub : ∀ y ∈ L0, y ∈ Lc) (hLc : Lc = bf_ads L ((gp_S h s n x).take b.toNat)) (hK : ∀ (g2 : pg_H) (f2 : Int) (L2 : List Int), pg_fr [1, 2, 3, 7, 8] h g2 → gp_B g2 n L2 → gp_C h g2 n c f2 L0 L2 → (∀ y ∈ L0, y ∈ L2) → L2 = bf_ads L (gp_S h s n x) → pg_Good true pm_N_paintFrom (fun r h' => ∃ f : Int, r = some (.inl f) ∧ pg_fr [1, 2, 3, 7, 8] h h' ∧ gp_B h' n LL ∧ gp_C h h' n c f L0 LL) (101, [(0, .inr (.inr 20)), (1, .inl c), (2, .inl f2), (3, .inl a)], [], g2)), pg_Good true pm_N_paintFrom (fun r h' => ∃ f : Int, r = some (.inl f) ∧ pg_fr [1, 2, 3, 7, 8] h h' ∧ gp_B h' n LL ∧ gp_C h h' n c f L0 LL) (43, [(0, .inr (.inr 20)), (1, .inl c), (2, .inl f), (3, .inl a), (4, .inl x), (5, .inl b)], [], g) := by
  intro d
  induction d with
  | zero =>
    intro g f b Lc hd hb hf hP hC hsub hLc hK
    obtain ⟨hs, ⟨hn1, hn2⟩, e1, e2, e3, e5⟩ := id hB
    have hr := mt_rd_or hs
    have hnn := mt_nn hn1 hn2
    obtain ⟨hCg, hSg, hL, hLb⟩ := id hP
    have hBg := cm_B_fr hB hf (by decide) (by decide)
    have g204 : g 20 4 = h 20 4 := by rw [hf 20 (by decide)]
    have gg := hG.1
    refine pg_br 3 (L := []) (P := pg_inR b ∧ pg_inR (g 20 4)) (c := (g 20 4) ≤ b) (st1 := (101, [(0, .inr (.inr 20)), (1, .inl c), (2, .inl f), (3, .inl a), (4, .inl x), (5, .inl b)], [], g)) (st2 := (52, [(0, .inr (.inr 20)), (1, .inl c), (2, .inl f), (3, .inl a), (4, .inl x), (5, .inl b)], [], g)) rfl trivial ⟨⟨by omega, by omega⟩, ⟨by omega, by omega⟩⟩ (fun c_49_1 => ?_) (fun c_49_1 => ?_)
    · refine pg_pick [0, 1, 2, 3] rfl ?_
      refine hK g f Lc hf hP hC hsub ?_
      rw [hLc, List.take_of_length_le (by unfold gp_S; rw [List.length_map, List.length_range]; omega)]
    · exact (by exfalso; omega)
  | succ d ih =>
    intro g f b Lc hd hb hf hP hC hsub hLc hK
    obtain ⟨hs, ⟨hn1, hn2⟩, e1, e2, e3, e5⟩ := id hB
    have hr := mt_rd_or hs
    have hnn := mt_nn hn1 hn2
    obtain ⟨hCg, hSg, hL, hLb⟩ := id hP
    have hBg := cm_B_fr hB hf (by decide) (by decide)
    have g204 : g 20 4 = h 20 4 := by rw [hf 20 (by decide)]
    have gg := hG.1
    have hcb := hG.2 b.toNat (by omega)
    have hcd : g 21 b.toNat = h 21 b.toNat := by rw [hf 21 (by decide)]
    have hz := mt_go_bd (s := s) (n := n) (a := h 21 b.toNat) (p := x) ⟨hn1, hn2⟩
    have eb : (b + 1).toNat = b.toNat + 1 := by omega
    have esn : (gp_S h s n x).take (b.toNat + 1) = (gp_S h s n x).take b.toNat ++ [mt_go s n (h 21 b.toNat) x] := list_take_s (by unfold gp_S; rw [List.getElem?_map, List.getElem?_range (by omega)]; rfl)
    have fb : 0 ≤ f ∧ f ≤ 144 := by rw [hC.2.1]; have := pg_cn_bd (fun q => ((q : Int) ∈ Lc ∧ (q : Int) ∉ L0) ∧ h 7 q ≠ c) (n * n).toNat; omega
    refine pg_br 3 (L := []) (P := pg_inR b ∧ pg_inR (g 20 4)) (c := (g 20 4) ≤ b) (st1 := (101, [(0, .inr (.inr 20)), (1, .inl c), (2, .inl f), (3, .inl a), (4, .inl x), (5, .inl b)], [], g)) (st2 := (52, [(0, .inr (.inr 20)), (1, .inl c), (2, .inl f), (3, .inl a), (4, .inl x), (5, .inl b)], [], g)) rfl trivial ⟨⟨by omega, by omega⟩, ⟨by omega, by omega⟩⟩ (fun c_49_2 => ?_) (fun c_49_2 => ?_)
    · exact (by exfalso; omega)
    · refine pg_ca 6 (L := [0 ≤ b ∧ b < (6 : Int)]) (Mc := pm_N_goalOf) (as := [.inr (.inr 20), .inl (g 21 b.toNat), .inl x]) (h0 := g) (pc := 65) (lv := [(0, .inr (.inr 20)), (1, .inl c), (2, .inl f), (3, .inl a), (4, .inl x), (5, .inl b)]) (rest := []) rfl ⟨by omega, by omega⟩ (gn_goal hBg (g 21 b.toNat) x (by rw [hcd]; exact hcb) hxb) ?_
      intro r_1 h_1 e_1; rw [hcd] at e_1; rw [e_1.1, e_1.2]
      refine pg_ca 4 (L := []) (Mc := pm_R_add) (as := [.inr (.inr 1), .inl (mt_go s n (h 21 b.toNat) x)]) (h0 := g) (pc := 76) (lv := [(0, .inr (.inr 20)), (1, .inl c), (2, .inl f), (3, .inl a), (4, .inl x), (5, .inl b), (6, .inl (mt_go s n (h 21 b.toNat) x))]) (rest := []) rfl trivial (rl_add hL (mt_go s n (h 21 b.toNat) x) (by omega)) ?_
      intro r_1 g2 e_1; obtain ⟨er_, eL_, ef_⟩ := e_1; rw [er_]; have hf2 := pg_fr_tr hf ef_ (by decide); have hbo := pg_b_or (mt_go s n (h 21 b.toNat) x ∉ Lc)
      have e7 : g2 7 = g 7 := ef_ 7 (by decide)
      refine pg_br 0 (L := []) (P := pg_inR (pg_b (mt_go s n (h 21 b.toNat) x ∉ Lc))) (c := (pg_b (mt_go s n (h 21 b.toNat) x ∉ Lc)) = 0) (st1 := (95, [(0, .inr (.inr 20)), (1, .inl c), (2, .inl f), (3, .inl a), (4, .inl x), (5, .inl b), (6, .inl (mt_go s n (h 21 b.toNat) x))], [], g2)) (st2 := (79, [(0, .inr (.inr 20)), (1, .inl c), (2, .inl f), (3, .inl a), (4, .inl x), (5, .inl b), (6, .inl (mt_go s n (h 21 b.toNat) x))], [], g2)) rfl trivial ⟨by omega, by omega⟩ (fun c_76_3 => ?_) (fun c_76_3 => ?_)
      · refine pg_go 2 (L := []) (st' := (43, [(0, .inr (.inr 20)), (1, .inl c), (2, .inl f), (3, .inl a), (4, .inl x), (5, .inl (b + 1)), (6, .inl (mt_go s n (h 21 b.toNat) x))], [], g2)) rfl trivial ?_
        refine pg_pick [0, 1, 2, 3, 4, 5] rfl ?_
        have hin : ¬ (mt_go s n (h 21 b.toNat) x ∉ Lc) := by
          rcases hbo with hq | hq
          · omega
          · exact hq.1
        rw [bf_add_old hin] at eL_
        refine ih g2 _ _ Lc (by omega) (by omega) hf2 ⟨cp_C_fr hCg ef_ (by decide), cp_S_fr hSg ef_ (by decide) (by decide), eL_, hLb⟩ ⟨fun q hq => by rw [e7]; exact hC.1 q hq, hC.2.1, fun hq => by rw [e7, ef_ 8 (by decide)]; exact hC.2.2 hq⟩ hsub ?_ hK
        rw [eb, esn, bf_ads_snoc, ← hLc, bf_add_old hin]
      · refine pg_ca 4 (L := []) (Mc := pm_C_put) (as := [.inr (.inr 6), .inl (mt_go s n (h 21 b.toNat) x), .inl c]) (h0 := g2) (pc := 89) (lv := [(0, .inr (.inr 20)), (1, .inl c), (2, .inl f), (3, .inl a), (4, .inl x), (5, .inl b), (6, .inl (mt_go s n (h 21 b.toNat) x))]) (rest := []) rfl trivial (cp_put (cp_C_fr hCg ef_ (by decide)) (cp_S_fr hSg ef_ (by decide) (by decide)) (by omega) (p := mt_go s n (h 21 b.toNat) x) (c := c) hz hc) ?_
        intro r_1 g3 e_1; obtain ⟨er_, ef3_, e73_, eS3_, eq3_⟩ := e_1; rw [er_]; rw [e7] at e73_ eq3_
        have hf3 := pg_fr_tr hf2 ef3_ (by decide)
        have hin : mt_go s n (h 21 b.toNat) x ∉ Lc := by
          rcases hbo with hq | hq
          · exact hq.1
          · omega
        rw [bf_add_new hin] at eL_
        have eL3 := rc_L_fr ef3_ (by decide) (by decide) (by decide) eL_
        have hP3 : gp_B g3 n (Lc ++ [mt_go s n (h 21 b.toNat) x]) := ⟨fun p hp => by rw [e73_]; show 0 ≤ (if p = _ then c else g 7 p) ∧ (if p = _ then c else g 7 p) ≤ 9; split; (· exact hc); (· exact hCg p hp), eS3_, eL3, fun y hy => by rcases List.mem_append.mp hy with hy | hy; (· exact hLb y hy); (· rw [List.mem_singleton.mp hy]; exact hz)⟩
        have hC3 := gp_C_new hC hz hin hsub e73_ (fun hq => by rw [eq3_ hq]; exact ⟨e7, ef_ 8 (by decide)⟩)
        have hfs : (if g2 7 (mt_go s n (h 21 b.toNat) x).toNat = c then (0 : Int) else 1) = (if g 7 (mt_go s n (h 21 b.toNat) x).toNat = c then 0 else 1) := by rw [e7]
        have hfi : 0 ≤ (if g2 7 (mt_go s n (h 21 b.toNat) x).toNat = c then (0 : Int) else 1) ∧ (if g2 7 (mt_go s n (h 21 b.toNat) x).toNat = c then (0 : Int) else 1) ≤ 1 := by split <;> omega
        refine pg_br 0 (L := []) (P := pg_inR (if g2 7 (mt_go s n (h 21 b.toNat) x).toNat = c then 0 else 1)) (c := (if g2 7 (mt_go s n (h 21 b.toNat) x).toNat = c then 0 else 1) = 0) (st1 := (95, [(0, .inr (.inr 20)), (1, .inl c), (2, .inl f), (3, .inl a), (4, .inl x), (5, .inl b), (6, .inl (mt_go s n (h 21 b.toNat) x))], [], g3)) (st2 := (92, [(0, .inr (.inr 20)), (1, .inl c), (2, .inl f), (3, .inl a), (4, .inl x), (5, .inl b), (6, .inl (mt_go s n (h 21 b.toNat) x))], [], g3)) rfl trivial ⟨by omega, by omega⟩ (fun c_89_4 => ?_) (fun c_89_4 => ?_)
        · refine pg_go 2 (L := []) (st' := (43, [(0, .inr (.inr 20)), (1, .inl c), (2, .inl f), (3, .inl a), (4, .inl x), (5, .inl (b + 1)), (6, .inl (mt_go s n (h 21 b.toNat) x))], [], g3)) rfl trivial ?_
          refine pg_pick [0, 1, 2, 3, 4, 5] rfl ?_
          refine ih g3 _ _ (Lc ++ [mt_go s n (h 21 b.toNat) x]) (by omega) (by omega) hf3 hP3 ?_ (fun y hy => List.mem_append.mpr (Or.inl (hsub y hy))) ?_ hK
          · rw [← hfs] at hC3; first | (rw [show (f + 1 : Int) = f + (if g2 7 (mt_go s n (h 21 b.toNat) x).toNat = c then (0 : Int) else 1) by omega]; exact hC3) | (rw [show (f : Int) = f + (if g2 7 (mt_go s n (h 21 b.toNat) x).toNat = c then (0 : Int) else 1) by omega]; exact hC3)
          · rw [eb, esn, bf_ads_snoc, ← hLc, bf_add_new hin]
        · refine pg_go 3 (L := []) (st' := (43, [(0, .inr (.inr 20)), (1, .inl c), (2, .inl (f + 1)), (3, .inl a), (4, .inl x), (5, .inl (b + 1)), (6, .inl (mt_go s n (h 21 b.toNat) x))], [], g3)) rfl trivial ?_
          refine pg_pick [0, 1, 2, 3, 4, 5] rfl ?_
          refine ih g3 _ _ (Lc ++ [mt_go s n (h 21 b.toNat) x]) (by omega) (by omega) hf3 hP3 ?_ (fun y hy => List.mem_append.mpr (Or.inl (hsub y hy))) ?_ hK
          · rw [← hfs] at hC3; first | (rw [show (f + 1 : Int) = f + (if g2 7 (mt_go s n (h 21 b.toNat) x).toNat = c then (0 : Int) else 1) by omega]; exact hC3) | (rw [show (f : Int) = f + (if g2 7 (mt_go s n (h 21 b.toNat) x).toNat = c then (0 : Int) else 1) by omega]; exact hC3)
          · rw [eb, esn, bf_ads_snoc, ← hLc, bf_add_new hin]
theorem gp_pf_a {h : pg_H} {s n : Int} (hB : cm_B h s n) (hG : gn_I h s n) {c : Int} (hc : 0 ≤ c ∧ c ≤ 9) {L0 LL : List Int} : ∀ (d : Nat) (g : pg_H) (f a : Int) (L : List Int) (hd : a + (d : Int) = 5184) (ha : 0 ≤ a) (hf : pg_fr [1, 2, 3, 7, 8] h g) (hP : gp_B g n L) (hC : gp_C h g n c f L0 L) (hsub : ∀ y ∈ L0, y ∈ L) (hLL : LL = bf (gp_S h s n) d a.toNat L), pg_Good true pm_N_paintFrom (fun r h' => ∃ f : Int, r = some (.inl f) ∧ pg_fr [1, 2, 3, 7, 8] h h' ∧ gp_B h' n LL ∧ gp_C h h' n c f L0 LL) (12, [(0, .inr (.inr 20)), (1, .inl c), (2, .inl f), (3, .inl a)], [], g) := by
  intro d
  induction d with
  | zero =>
    intro g f a L hd ha hf hP hC hsub hLL
    obtain ⟨hs, ⟨hn1, hn2⟩, e1, e2, e3, e5⟩ := id hB
    have hr := mt_rd_or hs
    have hnn := mt_nn hn1 hn2
    obtain ⟨hCg, hSg, hL, hLb⟩ := id hP
    have hBg := cm_B_fr hB hf (by decide) (by decide)
    have g204 : g 20 4 = h 20 4 := by rw [hf 20 (by decide)]
    have gg := hG.1
    have hln := hL.2.1
    have hln2 : g 1 2 ≤ n * n := rc_L_le hL hLb (by omega)
    refine pg_br 4 (L := []) (P := pg_inR a ∧ pg_inR (g 1 2)) (c := (g 1 2) ≤ a) (st1 := (107, [(0, .inr (.inr 20)), (1, .inl c), (2, .inl f), (3, .inl a)], [], g)) (st2 := (23, [(0, .inr (.inr 20)), (1, .inl c), (2, .inl f), (3, .inl a)], [], g)) rfl trivial ⟨⟨by omega, by omega⟩, ⟨by omega, by omega⟩⟩ (fun c_20_1 => ?_) (fun c_20_1 => ?_)
    · refine pg_re 1 (L := []) (r := some (.inl f)) (h0 := g) rfl trivial ?_
      refine ⟨f, rfl, hf, ?_, ?_⟩
      · rw [hLL]; exact hP
      · rw [hLL]; exact hC
    · exact (by exfalso; omega)
  | succ d ih =>
    intro g f a L hd ha hf hP hC hsub hLL
    obtain ⟨hs, ⟨hn1, hn2⟩, e1, e2, e3, e5⟩ := id hB
    have hr := mt_rd_or hs
    have hnn := mt_nn hn1 hn2
    obtain ⟨hCg, hSg, hL, hLb⟩ := id hP
    have hBg := cm_B_fr hB hf (by decide) (by decide)
    have g204 : g 20 4 = h 20 4 := by rw [hf 20 (by decide)]
    have gg := hG.1
    have hln := hL.2.1
    have hln2 : g 1 2 ≤ n * n := rc_L_le hL hLb (by omega)
    refine pg_br 4 (L := []) (P := pg_inR a ∧ pg_inR (g 1 2)) (c := (g 1 2) ≤ a) (st1 := (107, [(0, .inr (.inr 20)), (1, .inl c), (2, .inl f), (3, .inl a)], [], g)) (st2 := (23, [(0, .inr (.inr 20)), (1, .inl c), (2, .inl f), (3, .inl a)], [], g)) rfl trivial ⟨⟨by omega, by omega⟩, ⟨by omega, by omega⟩⟩ (fun c_20_2 => ?_) (fun c_20_2 => ?_)
    · refine pg_re 1 (L := []) (r := some (.inl f)) (h0 := g) rfl trivial ?_
      refine ⟨f, rfl, hf, ?_, ?_⟩
      all_goals rw [hLL]
      all_goals have hnone : L[a.toNat]? = none := List.getElem?_eq_none (by omega)
      · simp only [bf, hnone]; exact hP
      · simp only [bf, hnone]; exact hC
    · refine pg_br 2 (L := []) (P := pg_inR a ∧ pg_inR 144) (c := 144 ≤ a) (st1 := (107, [(0, .inr (.inr 20)), (1, .inl c), (2, .inl f), (3, .inl a)], [], g)) (st2 := (30, [(0, .inr (.inr 20)), (1, .inl c), (2, .inl f), (3, .inl a)], [], g)) rfl trivial ⟨⟨by omega, by omega⟩, ⟨by decide, by decide⟩⟩ (fun c_27_3 => ?_) (fun c_27_3 => ?_)
      · exact (by exfalso; omega)
      · obtain ⟨x_, hx_⟩ := list_at (A := L) (j := a.toNat) (by omega)
        have hxb := hLb x_ (List.mem_of_getElem? hx_)
        have hbf : bf (gp_S h s n) (d + 1) a.toNat L = bf (gp_S h s n) d (a.toNat + 1) (bf_ads L (gp_S h s n x_)) := by simp only [bf]; rw [hx_]
        refine pg_ca 3 (L := []) (Mc := pm_R_at) (as := [.inr (.inr 1), .inl a]) (h0 := g) (pc := 38) (lv := [(0, .inr (.inr 20)), (1, .inl c), (2, .inl f), (3, .inl a)]) (rest := []) rfl trivial (rl_at hL a x_ ha hx_) ?_
        intro r_1 h_1 e_1; rw [e_1.1, e_1.2]
        refine pg_go 3 (L := []) (st' := (43, [(0, .inr (.inr 20)), (1, .inl c), (2, .inl f), (3, .inl a), (4, .inl x_), (5, .inl 0)], [], g)) rfl trivial ?_
        refine gp_pf_b hB hG hc (a := a) (x := x_) (L := L) ⟨ha, by omega⟩ hxb (h 20 4).toNat g f 0 L (by omega) (by omega) hf hP hC hsub (by rw [show (0 : Int).toNat = 0 from rfl, List.take_zero]; rfl) (fun g2 f2 L2 hf2 hP2 hC2 hs2 hL2 => ?_)
        refine pg_go 2 (L := []) (st' := (12, [(0, .inr (.inr 20)), (1, .inl c), (2, .inl f2), (3, .inl (a + 1))], [], g2)) rfl trivial ?_
        exact ih g2 _ _ L2 (by omega) (by omega) hf2 hP2 hC2 hs2 (by rw [hLL, hbf, hL2, show (a + 1).toNat = a.toNat + 1 by omega])
theorem gp_pf {h : pg_H} {s n : Int} (hB : cm_B h s n) (hG : gn_I h s n) {c : Int} (hc : 0 ≤ c ∧ c ≤ 9) {L : List Int} (hP : gp_B h n L) (hne : 0 < L.length) : pg_Sem true pm_N_paintFrom [.inr (.inr 20), .inl c] h (fun r h' => ∃ f : Int, r = some (.inl f) ∧ pg_fr [1, 2, 3, 7, 8] h h' ∧ gp_B h' n (bf (gp_S h s n) (5185 - L.length) (L.length - 1) L) ∧ gp_C h h' n c f L (bf (gp_S h s n) (5185 - L.length) (L.length - 1) L)) := by
  have hle := rc_I_le hP.2.2.1.1
  have hln := hP.2.2.1.2.1
  refine pg_Sem_of pm_N_paintFrom_f rfl ?_
  refine pg_go 8 (L := []) (st' := (12, [(0, .inr (.inr 20)), (1, .inl c), (2, .inl 0), (3, .inl ((h 1 2) - 1))], [], h)) rfl trivial ?_
  refine gp_pf_a hB hG hc (L0 := L) (5185 - L.length) h 0 _ L (by omega) (by omega) (pg_fr_rf _ _) hP ⟨fun q hq => by rw [pg_if_f (fun hz => hz.2 hz.1)], ?_, fun _ => ⟨rfl, rfl⟩⟩ (fun y hy => hy) ?_
  · rw [pg_cn_0 (fun j _ hz => hz.1.2 hz.1.1)]
  · rw [hln, show ((L.length : Int) - 1).toNat = L.length - 1 by omega]
