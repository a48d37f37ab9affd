/-! the reference: halves -/
theorem ri_J_fr {cs fs : List Nat} {g g' : pg_H} {s n : Int} (hJ : ri_J g s n) (hf : rf cs fs g g') (hK : ri_K g' s n) (h7 : g 0 7 = 1 → g' 0 7 = 1) (h : 1 ∉ cs ∧ 4 ∉ cs ∧ 5 ∉ cs ∧ 6 ∉ cs ∧ 7 ∉ cs ∧ 8 ∉ cs ∧ 13 ∉ fs ∧ 8 ∉ fs) : ri_J g' s n := by
  rcases hJ with h1 | ⟨h1, h2, h3, h4⟩
  · exact Or.inl (by rw [hf.2 8 h.2.2.2.2.2.2.2]; exact h1)
  · have h5 := h7 h2
    refine Or.inr ⟨by rw [hf.2 8 h.2.2.2.2.2.2.2]; exact h1, h5, ?_, ri_P_fr h4 hf ⟨h.1, h.2.1, h.2.2.1, h.2.2.2.1, h.2.2.2.2.1, h.2.2.2.2.2.1, h.2.2.2.2.2.2.1⟩⟩
    rcases hK with h6 | h6
    · omega
    · exact h6.2
def rv_take (pr : Int → Int → Int) (GL : List Int × List Int) (sq : Int) : List Int × List Int := if sq ∈ GL.2 then GL else (GL.1 ++ [sq], bf (hv_S pr (GL.1 ++ [sq])) 5184 0 GL.2)
noncomputable def rv_run (pr : Int → Int → Int) (P : Nat → Prop) : Nat → List Int × List Int
  | 0 => ([], [0])
  | m + 1 => @ite _ (P m) (Classical.propDecidable _) (rv_take pr (rv_run pr P m) (pr m m)) (rv_run pr P m)
theorem rv_run_t {pr : Int → Int → Int} {P : Nat → Prop} {m : Nat} (h : P m) : rv_run pr P (m + 1) = rv_take pr (rv_run pr P m) (pr m m) := if_pos h
theorem rv_run_f {pr : Int → Int → Int} {P : Nat → Prop} {m : Nat} (h : ¬ P m) : rv_run pr P (m + 1) = rv_run pr P m := if_neg h
/-- the same along a list -/
def rv_lr (pr : Int → Int → Int) (L : Nat → Int) : Nat → List Int × List Int
  | 0 => ([], [0])
  | a + 1 => rv_take pr (rv_lr pr L a) (pr (L a) (L a))
theorem rv_lr_run {pr : Int → Int → Int} {P : Nat → Prop} {L : Nat → Int} {N : Nat} (hL : ∀ m, m < N → P m → L (pg_cn P m).toNat = m) : rv_lr pr L (pg_cn P N).toNat = rv_run pr P N := by
  induction N with
  | zero => rfl
  | succ N ih =>
    have ih := ih (fun m hm => hL m (by omega))
    simp only [pg_cn]
    rcases Classical.em (P N) with hP | hP
    · rw [pg_b_t hP, show (pg_cn P N + 1).toNat = (pg_cn P N).toNat + 1 by have := pg_cn_bd P N; omega, rv_run_t hP]
      simp only [rv_lr]
      rw [ih, hL N (by omega) hP]
    · rw [pg_b_f hP, Int.add_zero, rv_run_f hP]
      exact ih
def rv_H (g : pg_H) (s n : Int) (G L : List Int) : Prop := (∀ (j : Nat) (x : Int), L[j]? = some x → g 16 j = x) ∧ (∀ p : Nat, p < 1728 → (g 17 p = 0 ∨ g 17 p = 1) ∧ (g 17 p = 1 ↔ (p : Int) ∈ L)) ∧ (L.length : Int) = pg_cn (fun p => g 17 p = 1) 1728 ∧ (∀ x ∈ L, 0 ≤ x ∧ x < 2 * mt_rd s * (n * n)) ∧ (∀ (j : Nat) (x : Int), G[j]? = some x → g 18 j = x) ∧ ∀ x ∈ G, 0 ≤ x ∧ x < 2 * mt_rd s * (n * n)
theorem rv_H_fr {cs fs : List Nat} {g g' : pg_H} {s n : Int} {G L : List Int} (hH : rv_H g s n G L) (hf : rf cs fs g g') (h : 16 ∉ cs ∧ 17 ∉ cs ∧ 18 ∉ cs) : rv_H g' s n G L := by
  unfold rv_H
  rw [hf.1 16 (by decide) h.1, hf.1 17 (by decide) h.2.1, hf.1 18 (by decide) h.2.2]
  exact hH
theorem rv_H_lt {g : pg_H} {s n : Int} {G L : List Int} (hH : rv_H g s n G L) {p : Nat} (hp : p < 1728) (h0 : g 17 p ≠ 1) : L.length < 1728 := by
  have h1 := pg_cn_lt (P := fun p => g 17 p = 1) hp h0
  have h2 := hH.2.2.1
  omega
theorem rv_H_le {g : pg_H} {s n : Int} {G L : List Int} (hH : rv_H g s n G L) : L.length ≤ 1728 := by
  have h1 := pg_cn_bd (fun p => g 17 p = 1) 1728
  have h2 := hH.2.2.1
  omega
theorem rv_H_add {g : pg_H} {s n p : Int} {G L : List Int} (hH : rv_H g s n G L) (hp : 0 ≤ p ∧ p < 2 * mt_rd s * (n * n)) (hp2 : p < 1728) (h0 : g 17 p.toNat ≠ 1) : rv_H (pg_up (pg_up g 17 p.toNat 1) 16 L.length p) s n G (bf_add L p) := by
  obtain ⟨h1, h2, h3, h4, h5, h6⟩ := hH
  have hn : p ∉ L := by
    intro h
    refine h0 ((h2 p.toNat (by omega)).2.mpr ?_)
    rw [show ((p.toNat : Nat) : Int) = p by omega]; exact h
  rw [bf_add_new hn]
  refine ⟨fun j x hx => ?_, fun q hq => ?_, ?_, fun x hx => ?_, ?_, h6⟩
  · rw [pg_up_at, pg_up_ne _ _ _ (by decide)]
    have hjl : j < (L ++ [p]).length := (List.getElem?_eq_some_iff.mp hx).1
    simp at hjl
    by_cases hc : j = L.length
    · rw [if_pos hc]
      rw [hc, List.getElem?_append_right (Nat.le_refl _)] at hx
      simp at hx
      exact hx
    · rw [if_neg hc]
      rw [List.getElem?_append_left (by omega)] at hx
      exact h1 j x hx
  · rw [pg_up_ne _ _ _ (by decide), pg_up_at]
    by_cases hc : q = p.toNat
    · rw [if_pos hc]
      exact ⟨Or.inr rfl, fun _ => List.mem_append.mpr (Or.inr (List.mem_singleton.mpr (by omega))), fun _ => rfl⟩
    · rw [if_neg hc]
      refine ⟨(h2 q hq).1, (h2 q hq).2.trans ?_⟩
      rw [List.mem_append, List.mem_singleton]
      exact ⟨Or.inl, fun h => h.elim id (fun h => by omega)⟩
  · have h7 := pg_cn_one (P := fun q => g 17 q = 1) (P' := fun q => pg_up (pg_up g 17 p.toNat 1) 16 L.length p 17 q = 1) (z := p.toNat) (m := 1728) (by omega) h0 (fun q hq => by rw [pg_up_ne _ _ _ (by decide), pg_up_at, if_neg hq])
    rw [pg_b_t (by rw [pg_up_ne _ _ _ (by decide), pg_up_at, if_pos rfl])] at h7
    rw [h7, ← h3]
    simp
  · rcases List.mem_append.mp hx with h | h
    · exact h4 x h
    · rw [List.mem_singleton.mp h]; exact hp
  · rw [pg_up_ne _ _ _ (by decide), pg_up_ne _ _ _ (by decide)]
    exact h5
theorem rv_H_mk {g : pg_H} {s n p : Int} {G L : List Int} (hH : rv_H g s n G L) (hp : 0 ≤ p ∧ p < 2 * mt_rd s * (n * n)) : rv_H (pg_up g 18 G.length p) s n (G ++ [p]) L := by
  obtain ⟨h1, h2, h3, h4, h5, h6⟩ := hH
  refine ⟨h1, h2, h3, h4, fun j x hx => ?_, fun x hx => ?_⟩
  · rw [pg_up_at]
    have hjl : j < (G ++ [p]).length := (List.getElem?_eq_some_iff.mp hx).1
    simp at hjl
    by_cases hc : j = G.length
    · rw [if_pos hc]
      rw [hc, List.getElem?_append_right (Nat.le_refl _)] at hx
      simp at hx
      exact hx
    · rw [if_neg hc]
      rw [List.getElem?_append_left (by omega)] at hx
      exact h5 j x hx
  · rcases List.mem_append.mp hx with h | h
    · exact h6 x h
    · rw [List.mem_singleton.mp h]; exact hp
theorem rv_in {g : pg_H} {s n p : Int} {G L : List Int} (hH : rv_H g s n G L) (hp : 0 ≤ p ∧ p < 1728) : (g 17 p.toNat = 0 ∨ g 17 p.toNat = 1) ∧ (g 17 p.toNat = 1 ↔ p ∈ L) := by
  have h := hH.2.1 p.toNat (by omega)
  rw [show ((p.toNat : Nat) : Int) = p by omega] at h
  exact h
theorem rv_run_ne (pr : Int → Int → Int) (P : Nat → Prop) (m : Nat) : 0 < (rv_run pr P m).2.length := by
  have hbf : ∀ (S : Int → List Int) (F j : Nat) (L : List Int), L.length ≤ (bf S F j L).length := by
    intro S F
    induction F with
    | zero => intro j L; exact Nat.le_refl _
    | succ F ih =>
      intro j L
      simp only [bf]
      split
      · exact Nat.le_trans (bf_ads_len _ _) (ih _ _)
      · exact Nat.le_refl _
  induction m with
  | zero => exact Nat.zero_lt_one
  | succ m ih =>
    rcases Classical.em (P m) with h | h
    · rw [rv_run_t h]
      unfold rv_take
      split
      · exact ih
      · exact Nat.lt_of_lt_of_le ih (hbf _ _ _ _)
    · rw [rv_run_f h]; exact ih
set_option maxRecDepth 20000 in
set_option maxHeartbeats 8000000 in
theorem re_hv_k {g0 : pg_H} {s n : Int} (hB0 : rm_B g0 s n) (hS0 : ri_S g0 s n) {G L : List Int} {x w a q b : Int} (hw : w = G.length) (hw2 : w ≤ 1728) (hb : 0 ≤ b ∧ b < 1728) (hxL : L[b.toNat]? = some x) (hK : ∀ (g2 : pg_H) (z2 : Int), rf [16, 17, 18] [15, 16] g0 g2 → rv_H g2 s n G (bf_ads L (hv_S (mt_pr s n) G x)) → z2 = (bf_ads L (hv_S (mt_pr s n) G x)).length → pg_Good false pm_T_halves (fun r h' => ∃ g', h' = rm g' s n ∧ rf [16, 17, 18] [15, 16] g0 g' ∧ r = some (.inl (pg_cn (mt_sm (g0 1) s n) (2 * mt_rd s * (n * n)).toNat / (rv_run (mt_pr s n) (mt_sm (g0 1) s n) (2 * mt_rd s * (n * n)).toNat).2.length - 1))) (96, [(0, .inr (.inr 0)), (1, .inl z2), (2, .inl w), (3, .inl a), (4, .inl q), (5, .inl (b + 1))], [], rm g2 s n)) : ∀ (d : Nat) (g : pg_H) (z c : Int) (hd : c + (d : Int) = w) (hc : 0 ≤ c) (hf : rf [16, 17, 18] [15, 16] g0 g) (hH : rv_H g s n G (bf_ads L ((hv_S (mt_pr s n) G x).take c.toNat))) (hz : z = (bf_ads L ((hv_S (mt_pr s n) G x).take c.toNat)).length), pg_Good false pm_T_halves (fun r h' => ∃ g', h' = rm g' s n ∧ rf [16, 17, 18] [15, 16] g0 g' ∧ r = some (.inl (pg_cn (mt_sm (g0 1) s n) (2 * mt_rd s * (n * n)).toNat / (rv_run (mt_pr s n) (mt_sm (g0 1) s n) (2 * mt_rd s * (n * n)).toNat).2.length - 1))) (105, [(0, .inr (.inr 0)), (1, .inl z), (2, .inl w), (3, .inl a), (4, .inl q), (5, .inl b), (6, .inl c)], [], rm g s n) := by
  intro d
  induction d with
  | zero =>
    intro g z c hd hc hf hH hz
    have hB := rm_B_fr hB0 hf (by decide)
    obtain ⟨hs, hn, -⟩ := id hB
    obtain ⟨hn1, hn2⟩ := id hn
    have hr := mt_rd_or hs
    have hN := mt_2rn hs hn
    have e3 : g 3 = g0 3 := hf.1 3 (by decide) (by decide)
    have e6 : g 0 6 = g0 0 6 := hf.2 6 (by decide)
    have hcb := pg_cn_bd (mt_sm (g0 1) s n) (2 * mt_rd s * (n * n)).toNat
    have h6 : g0 0 6 = pg_cn (mt_sm (g0 1) s n) (2 * mt_rd s * (n * n)).toNat := hS0.1
    refine pg_br 2 (L := []) (P := pg_inR c ∧ pg_inR w) (c := w ≤ c) (st1 := (166, [(0, .inr (.inr 0)), (1, .inl z), (2, .inl w), (3, .inl a), (4, .inl q), (5, .inl b), (6, .inl c)], [], rm g s n)) (st2 := (111, [(0, .inr (.inr 0)), (1, .inl z), (2, .inl w), (3, .inl a), (4, .inl q), (5, .inl b), (6, .inl c)], [], rm g s n)) rfl trivial ⟨⟨by omega, by omega⟩, ⟨by omega, by omega⟩⟩ (fun c_108_1 => ?_) (fun c_108_1 => ?_)
    · refine pg_go 2 (L := []) (st' := (96, [(0, .inr (.inr 0)), (1, .inl z), (2, .inl w), (3, .inl a), (4, .inl q), (5, .inl (b + 1)), (6, .inl c)], [], rm g s n)) rfl trivial ?_
      refine pg_pick [0, 1, 2, 3, 4, 5] rfl ?_
      have et : (hv_S (mt_pr s n) G x).take c.toNat = (hv_S (mt_pr s n) G x) := List.take_of_length_le (by unfold hv_S; rw [List.length_map]; omega)
      rw [et] at hH hz
      exact hK _ _ hf hH hz
    · exact (by exfalso; omega)
  | succ d ih =>
    intro g z c hd hc hf hH hz
    have hB := rm_B_fr hB0 hf (by decide)
    obtain ⟨hs, hn, -⟩ := id hB
    obtain ⟨hn1, hn2⟩ := id hn
    have hr := mt_rd_or hs
    have hN := mt_2rn hs hn
    have e3 : g 3 = g0 3 := hf.1 3 (by decide) (by decide)
    have e6 : g 0 6 = g0 0 6 := hf.2 6 (by decide)
    have hcb := pg_cn_bd (mt_sm (g0 1) s n) (2 * mt_rd s * (n * n)).toNat
    have h6 : g0 0 6 = pg_cn (mt_sm (g0 1) s n) (2 * mt_rd s * (n * n)).toNat := hS0.1
    obtain ⟨y, hy⟩ := list_at (A := G) (j := c.toNat) (by omega)
    have hyg := hH.2.2.2.2.1 _ _ hy
    have hyb := hH.2.2.2.2.2 y (List.mem_of_getElem? hy)
    have hxl : b.toNat < L.length := (List.getElem?_eq_some_iff.mp hxL).1
    have hx2 : (bf_ads L ((hv_S (mt_pr s n) G x).take c.toNat))[b.toNat]? = some x := by rw [bf_ads_pre _ _ hxl]; exact hxL
    have hxg := hH.1 _ _ hx2
    have hxb := hH.2.2.2.1 x (List.mem_of_getElem? hx2)
    have epx : (mt_pr s n (g 16 b.toNat) (g 18 c.toNat)) = mt_pr s n x y := by rw [hxg, hyg]
    have hpq : 0 ≤ (mt_pr s n (g 16 b.toNat) (g 18 c.toNat)) ∧ (mt_pr s n (g 16 b.toNat) (g 18 c.toNat)) < 2 * mt_rd s * (n * n) := by rw [epx]; exact mt_pr_bd hs hn hxb hyb
    have hin := rv_in hH (p := (mt_pr s n (g 16 b.toNat) (g 18 c.toNat))) (by omega)
    have hle := rv_H_le hH
    have hlt : g 17 (mt_pr s n (g 16 b.toNat) (g 18 c.toNat)).toNat ≠ 1 → (bf_ads L ((hv_S (mt_pr s n) G x).take c.toNat)).length < 1728 := fun h => rv_H_lt hH (p := (mt_pr s n (g 16 b.toNat) (g 18 c.toNat)).toNat) (by omega) h
    have eb : (c + 1).toNat = c.toNat + 1 := by omega
    have esn : (hv_S (mt_pr s n) G x).take (c.toNat + 1) = (hv_S (mt_pr s n) G x).take c.toNat ++ [mt_pr s n x y] := list_take_s (by unfold hv_S; rw [List.getElem?_map, hy]; rfl)
    refine pg_br 2 (L := []) (P := pg_inR c ∧ pg_inR w) (c := w ≤ c) (st1 := (166, [(0, .inr (.inr 0)), (1, .inl z), (2, .inl w), (3, .inl a), (4, .inl q), (5, .inl b), (6, .inl c)], [], rm g s n)) (st2 := (111, [(0, .inr (.inr 0)), (1, .inl z), (2, .inl w), (3, .inl a), (4, .inl q), (5, .inl b), (6, .inl c)], [], rm g s n)) rfl trivial ⟨⟨by omega, by omega⟩, ⟨by omega, by omega⟩⟩ (fun c_108_2 => ?_) (fun c_108_2 => ?_)
    · exact (by exfalso; omega)
    · refine pg_ca 9 (L := [0 ≤ b ∧ b < (1728 : Int), 0 ≤ c ∧ c < (1728 : Int)]) (Mc := pm_T_product) (as := [.inr (.inr 0), .inl (g 16 b.toNat), .inl (g 18 c.toNat)]) (h0 := rm g s n) (pc := 129) (lv := [(0, .inr (.inr 0)), (1, .inl z), (2, .inl w), (3, .inl a), (4, .inl q), (5, .inl b), (6, .inl c)]) (rest := []) rfl ⟨⟨by omega, by omega⟩, ⟨by omega, by omega⟩⟩ (re_product (g := g) hB (g 16 b.toNat) (g 18 c.toNat) (by rw [hxg]; exact hxb) (by rw [hyg]; exact hyb)) ?_
      intro r_1 h_1 e_1; obtain ⟨er_, g33, eh_, ef33⟩ := e_1; rw [er_, eh_]; have hB33 := rm_B_fr hB ef33 (by decide); have e17_33 : g33 17 = g 17 := ef33.1 17 (by decide) (by decide)
      have hin2_33 : g33 17 (mt_pr s n (g 16 b.toNat) (g 18 c.toNat)).toNat = g 17 (mt_pr s n (g 16 b.toNat) (g 18 c.toNat)).toNat := by rw [e17_33]
      refine pg_br 5 (L := [0 ≤ (mt_pr s n (g 16 b.toNat) (g 18 c.toNat)) ∧ (mt_pr s n (g 16 b.toNat) (g 18 c.toNat)) < (1728 : Int)]) (P := pg_inR (g33 17 ((mt_pr s n (g 16 b.toNat) (g 18 c.toNat)).toNat))) (c := ¬ (g33 17 ((mt_pr s n (g 16 b.toNat) (g 18 c.toNat)).toNat)) = 0) (st1 := (160, [(0, .inr (.inr 0)), (1, .inl z), (2, .inl w), (3, .inl a), (4, .inl q), (5, .inl b), (6, .inl c), (7, .inl (mt_pr s n (g 16 b.toNat) (g 18 c.toNat)))], [], rm g33 s n)) (st2 := (141, [(0, .inr (.inr 0)), (1, .inl z), (2, .inl w), (3, .inl a), (4, .inl q), (5, .inl b), (6, .inl c), (7, .inl (mt_pr s n (g 16 b.toNat) (g 18 c.toNat)))], [], rm g33 s n)) rfl ⟨by omega, by omega⟩ ⟨by omega, by omega⟩ (fun c_138_3 => ?_) (fun c_138_3 => ?_)
      · refine pg_go 2 (L := []) (st' := (105, [(0, .inr (.inr 0)), (1, .inl z), (2, .inl w), (3, .inl a), (4, .inl q), (5, .inl b), (6, .inl (c + 1)), (7, .inl (mt_pr s n (g 16 b.toNat) (g 18 c.toNat)))], [], rm g33 s n)) rfl trivial ?_
        refine pg_pick [0, 1, 2, 3, 4, 5, 6] rfl ?_
        have h1 : ¬ (mt_pr s n (g 16 b.toNat) (g 18 c.toNat)) ∉ (bf_ads L ((hv_S (mt_pr s n) G x).take c.toNat)) := fun h => h (hin.2.mp (by rw [← e17_33]; rcases hin.1 with h2 | h2 <;> rw [← e17_33] at h2 <;> omega))
        refine ih _ _ _ (by omega) (by omega) (rf_tr hf ef33 (by decide) (by decide)) ?_ ?_
        · rw [eb, esn, bf_ads_snoc, ← epx, bf_add_old h1]; exact rv_H_fr hH ef33 (by decide)
        · rw [eb, esn, bf_ads_snoc, ← epx, bf_add_old h1]; exact hz
      · refine pg_go 13 (L := [0 ≤ (mt_pr s n (g 16 b.toNat) (g 18 c.toNat)) ∧ (mt_pr s n (g 16 b.toNat) (g 18 c.toNat)) < (1728 : Int), 1 = 0 ∨ 1 = 1, 0 ≤ z ∧ z < (1728 : Int)]) (st' := (105, [(0, .inr (.inr 0)), (1, .inl (z + 1)), (2, .inl w), (3, .inl a), (4, .inl q), (5, .inl b), (6, .inl (c + 1)), (7, .inl (mt_pr s n (g 16 b.toNat) (g 18 c.toNat)))], [], pg_up (pg_up (rm g33 s n) 17 ((mt_pr s n (g 16 b.toNat) (g 18 c.toNat)).toNat) 1) 16 z.toNat (mt_pr s n (g 16 b.toNat) (g 18 c.toNat)))) rfl ⟨⟨by omega, by omega⟩, Or.inr rfl, ⟨by omega, by omega⟩⟩ ?_
        rw [rm_upq (q := 17) (by decide), rm_upq (q := 16) (by decide)]
        refine pg_pick [0, 1, 2, 3, 4, 5, 6] rfl ?_
        refine ih _ _ _ (by omega) (by omega) (rf_q (rf_q (rf_tr hf ef33 (by decide) (by decide)) (by decide) (by decide) _ _) (by decide) (by decide) _ _) ?_ ?_
        · rw [eb, esn, bf_ads_snoc, ← epx]
          have h1 := rv_H_add (rv_H_fr hH ef33 (by decide)) (p := (mt_pr s n (g 16 b.toNat) (g 18 c.toNat))) hpq (by omega) (by omega)
          rw [show z.toNat = (bf_ads L ((hv_S (mt_pr s n) G x).take c.toNat)).length by omega]
          exact h1
        · rw [eb, esn, bf_ads_snoc, ← epx, bf_add_new (fun h => by have := hin.2.mpr h; rw [← e17_33] at this; omega)]
          simp; omega
set_option maxRecDepth 20000 in
set_option maxHeartbeats 4000000 in
theorem re_hv_i {g0 : pg_H} {s n : Int} (hB0 : rm_B g0 s n) (hS0 : ri_S g0 s n) {G LL : List Int} {w a q : Int} (hw : w = G.length) (hw2 : w ≤ 1728) (hK : ∀ (g2 : pg_H) (z2 b2 : Int), rf [16, 17, 18] [15, 16] g0 g2 → rv_H g2 s n G LL → z2 = LL.length → pg_Good false pm_T_halves (fun r h' => ∃ g', h' = rm g' s n ∧ rf [16, 17, 18] [15, 16] g0 g' ∧ r = some (.inl (pg_cn (mt_sm (g0 1) s n) (2 * mt_rd s * (n * n)).toNat / (rv_run (mt_pr s n) (mt_sm (g0 1) s n) (2 * mt_rd s * (n * n)).toNat).2.length - 1))) (172, [(0, .inr (.inr 0)), (1, .inl z2), (2, .inl w), (3, .inl a), (4, .inl q), (5, .inl b2)], [], rm g2 s n)) : ∀ (d : Nat) (g : pg_H) (z b : Int) (L : List Int) (hd : b + (d : Int) = 5184) (hb : 0 ≤ b) (hf : rf [16, 17, 18] [15, 16] g0 g) (hH : rv_H g s n G L) (hz : z = L.length) (hLL : LL = bf (hv_S (mt_pr s n) G) d b.toNat L), pg_Good false pm_T_halves (fun r h' => ∃ g', h' = rm g' s n ∧ rf [16, 17, 18] [15, 16] g0 g' ∧ r = some (.inl (pg_cn (mt_sm (g0 1) s n) (2 * mt_rd s * (n * n)).toNat / (rv_run (mt_pr s n) (mt_sm (g0 1) s n) (2 * mt_rd s * (n * n)).toNat).2.length - 1))) (96, [(0, .inr (.inr 0)), (1, .inl z), (2, .inl w), (3, .inl a), (4, .inl q), (5, .inl b)], [], rm g s n) := by
  intro d
  induction d with
  | zero =>
    intro g z b L hd hb hf hH hz hLL
    have hB := rm_B_fr hB0 hf (by decide)
    obtain ⟨hs, hn, -⟩ := id hB
    obtain ⟨hn1, hn2⟩ := id hn
    have hr := mt_rd_or hs
    have hN := mt_2rn hs hn
    have e3 : g 3 = g0 3 := hf.1 3 (by decide) (by decide)
    have e6 : g 0 6 = g0 0 6 := hf.2 6 (by decide)
    have hcb := pg_cn_bd (mt_sm (g0 1) s n) (2 * mt_rd s * (n * n)).toNat
    have h6 : g0 0 6 = pg_cn (mt_sm (g0 1) s n) (2 * mt_rd s * (n * n)).toNat := hS0.1
    have hle := rv_H_le hH
    refine pg_br 2 (L := []) (P := pg_inR b ∧ pg_inR z) (c := z ≤ b) (st1 := (172, [(0, .inr (.inr 0)), (1, .inl z), (2, .inl w), (3, .inl a), (4, .inl q), (5, .inl b)], [], rm g s n)) (st2 := (102, [(0, .inr (.inr 0)), (1, .inl z), (2, .inl w), (3, .inl a), (4, .inl q), (5, .inl b)], [], rm g s n)) rfl trivial ⟨⟨by omega, by omega⟩, ⟨by omega, by omega⟩⟩ (fun c_99_1 => ?_) (fun c_99_1 => ?_)
    · exact hK _ _ _ hf (by rw [hLL]; exact hH) (by rw [hLL]; exact hz)
    · exact (by exfalso; omega)
  | succ d ih =>
    intro g z b L hd hb hf hH hz hLL
    have hB := rm_B_fr hB0 hf (by decide)
    obtain ⟨hs, hn, -⟩ := id hB
    obtain ⟨hn1, hn2⟩ := id hn
    have hr := mt_rd_or hs
    have hN := mt_2rn hs hn
    have e3 : g 3 = g0 3 := hf.1 3 (by decide) (by decide)
    have e6 : g 0 6 = g0 0 6 := hf.2 6 (by decide)
    have hcb := pg_cn_bd (mt_sm (g0 1) s n) (2 * mt_rd s * (n * n)).toNat
    have h6 : g0 0 6 = pg_cn (mt_sm (g0 1) s n) (2 * mt_rd s * (n * n)).toNat := hS0.1
    have hle := rv_H_le hH
    refine pg_br 2 (L := []) (P := pg_inR b ∧ pg_inR z) (c := z ≤ b) (st1 := (172, [(0, .inr (.inr 0)), (1, .inl z), (2, .inl w), (3, .inl a), (4, .inl q), (5, .inl b)], [], rm g s n)) (st2 := (102, [(0, .inr (.inr 0)), (1, .inl z), (2, .inl w), (3, .inl a), (4, .inl q), (5, .inl b)], [], rm g s n)) rfl trivial ⟨⟨by omega, by omega⟩, ⟨by omega, by omega⟩⟩ (fun c_99_2 => ?_) (fun c_99_2 => ?_)
    · have hnone : L[b.toNat]? = none := List.getElem?_eq_none (by omega)
      have hbf : LL = L := by rw [hLL]; simp only [bf, hnone]
      exact hK _ _ _ hf (by rw [hbf]; exact hH) (by rw [hbf]; exact hz)
    · refine pg_go 2 (L := []) (st' := (105, [(0, .inr (.inr 0)), (1, .inl z), (2, .inl w), (3, .inl a), (4, .inl q), (5, .inl b), (6, .inl 0)], [], rm g s n)) rfl trivial ?_
      obtain ⟨x, hx⟩ := list_at (A := L) (j := b.toNat) (by omega)
      have hbf : bf (hv_S (mt_pr s n) G) (d + 1) b.toNat L = bf (hv_S (mt_pr s n) G) d (b.toNat + 1) (bf_ads L (hv_S (mt_pr s n) G x)) := by simp only [bf]; rw [hx]
      refine re_hv_k hB0 hS0 (G := G) (L := L) (x := x) hw hw2 (by omega) hx ?_ w.toNat g z 0 (by omega) (by omega) hf (by rw [show (0 : Int).toNat = 0 from rfl, List.take_zero]; exact hH) (by rw [show (0 : Int).toNat = 0 from rfl, List.take_zero]; exact hz)
      intro g2 z2 k1 k2 k3
      exact ih g2 z2 _ _ (by omega) (by omega) k1 k2 k3 (by rw [hLL, hbf, show (b + 1).toNat = b.toNat + 1 by omega])
set_option maxRecDepth 20000 in
set_option maxHeartbeats 8000000 in
theorem re_hv_s {g0 : pg_H} {s n : Int} (hB0 : rm_B g0 s n) (hS0 : ri_S g0 s n) : ∀ (d : Nat) (g : pg_H) (z w a : Int) (hd : a + (d : Int) = pg_cn (mt_sm (g0 1) s n) (2 * mt_rd s * (n * n)).toNat) (ha : 0 ≤ a) (hf : rf [16, 17, 18] [15, 16] g0 g) (hH : rv_H g s n (rv_lr (mt_pr s n) (g0 3) a.toNat).1 (rv_lr (mt_pr s n) (g0 3) a.toNat).2) (hz : z = (rv_lr (mt_pr s n) (g0 3) a.toNat).2.length) (hw : w = (rv_lr (mt_pr s n) (g0 3) a.toNat).1.length) (hwa : ((rv_lr (mt_pr s n) (g0 3) a.toNat).1.length : Int) ≤ a), pg_Good false pm_T_halves (fun r h' => ∃ g', h' = rm g' s n ∧ rf [16, 17, 18] [15, 16] g0 g' ∧ r = some (.inl (pg_cn (mt_sm (g0 1) s n) (2 * mt_rd s * (n * n)).toNat / (rv_run (mt_pr s n) (mt_sm (g0 1) s n) (2 * mt_rd s * (n * n)).toNat).2.length - 1))) (46, [(0, .inr (.inr 0)), (1, .inl z), (2, .inl w), (3, .inl a)], [], rm g s n) := by
  intro d
  induction d with
  | zero =>
    intro g z w a hd ha hf hH hz hw hwa
    have hB := rm_B_fr hB0 hf (by decide)
    obtain ⟨hs, hn, -⟩ := id hB
    obtain ⟨hn1, hn2⟩ := id hn
    have hr := mt_rd_or hs
    have hN := mt_2rn hs hn
    have e3 : g 3 = g0 3 := hf.1 3 (by decide) (by decide)
    have e6 : g 0 6 = g0 0 6 := hf.2 6 (by decide)
    have hcb := pg_cn_bd (mt_sm (g0 1) s n) (2 * mt_rd s * (n * n)).toNat
    have h6 : g0 0 6 = pg_cn (mt_sm (g0 1) s n) (2 * mt_rd s * (n * n)).toNat := hS0.1
    have hle := rv_H_le hH
    have erun := rv_lr_run (pr := mt_pr s n) (P := (mt_sm (g0 1) s n)) (N := (2 * mt_rd s * (n * n)).toNat) (L := g0 3) (fun m h2 => hS0.2 m (by omega))
    have hne := rv_run_ne (mt_pr s n) (mt_sm (g0 1) s n) (2 * mt_rd s * (n * n)).toNat
    have eaa : a = pg_cn (mt_sm (g0 1) s n) (2 * mt_rd s * (n * n)).toNat := by omega
    rw [eaa, erun] at hz
    have etd := pg_tdiv_nn (x := pg_cn (mt_sm (g0 1) s n) (2 * mt_rd s * (n * n)).toNat) (y := z) (by omega)
    rw [eaa, erun] at hle
    have hdb := pg_td_bd (x := pg_cn (mt_sm (g0 1) s n) (2 * mt_rd s * (n * n)).toNat) (y := z) (by omega) (by omega)
    have e66 : g 0 6 = pg_cn (mt_sm (g0 1) s n) (2 * mt_rd s * (n * n)).toNat := by omega
    refine pg_br 3 (L := []) (P := pg_inR a ∧ pg_inR (g 0 6)) (c := (g 0 6) ≤ a) (st1 := (178, [(0, .inr (.inr 0)), (1, .inl z), (2, .inl w), (3, .inl a)], [], rm g s n)) (st2 := (54, [(0, .inr (.inr 0)), (1, .inl z), (2, .inl w), (3, .inl a)], [], rm g s n)) rfl trivial ⟨⟨by omega, by omega⟩, ⟨by omega, by omega⟩⟩ (fun c_51_1 => ?_) (fun c_51_1 => ?_)
    · refine pg_re 6 (L := [z ≠ 0 ∧ pg_inR (g 0 6) ∧ pg_inR z]) (r := some (.inl ((Int.tdiv (g 0 6) z) - 1))) (h0 := rm g s n) rfl ⟨by omega, ⟨by omega, by omega⟩, ⟨by omega, by omega⟩⟩ ?_
      refine ⟨g, rfl, hf, ?_⟩
      rw [e66, etd, hz]
    · exact (by exfalso; omega)
  | succ d ih =>
    intro g z w a hd ha hf hH hz hw hwa
    have hB := rm_B_fr hB0 hf (by decide)
    obtain ⟨hs, hn, -⟩ := id hB
    obtain ⟨hn1, hn2⟩ := id hn
    have hr := mt_rd_or hs
    have hN := mt_2rn hs hn
    have e3 : g 3 = g0 3 := hf.1 3 (by decide) (by decide)
    have e6 : g 0 6 = g0 0 6 := hf.2 6 (by decide)
    have hcb := pg_cn_bd (mt_sm (g0 1) s n) (2 * mt_rd s * (n * n)).toNat
    have h6 : g0 0 6 = pg_cn (mt_sm (g0 1) s n) (2 * mt_rd s * (n * n)).toNat := hS0.1
    obtain ⟨m, hm1, hm2, hm3⟩ := pg_cn_ex ha (show a < pg_cn (mt_sm (g0 1) s n) (2 * mt_rd s * (n * n)).toNat by omega)
    have hma : g 3 a.toNat = (m : Int) := by
      have h1 := hS0.2 m (by omega) hm2
      rw [hm3] at h1
      rw [e3]; exact h1
    have hmb : 0 ≤ g 3 a.toNat ∧ g 3 a.toNat < 2 * mt_rd s * (n * n) := by omega
    have hpq := mt_pr_bd hs hn hmb hmb
    have hin := rv_in hH (p := (mt_pr s n (g 3 a.toNat) (g 3 a.toNat))) (by omega)
    have hle := rv_H_le hH
    have ek : (a + 1).toNat = a.toNat + 1 := by omega
    refine pg_br 3 (L := []) (P := pg_inR a ∧ pg_inR (g 0 6)) (c := (g 0 6) ≤ a) (st1 := (178, [(0, .inr (.inr 0)), (1, .inl z), (2, .inl w), (3, .inl a)], [], rm g s n)) (st2 := (54, [(0, .inr (.inr 0)), (1, .inl z), (2, .inl w), (3, .inl a)], [], rm g s n)) rfl trivial ⟨⟨by omega, by omega⟩, ⟨by omega, by omega⟩⟩ (fun c_51_2 => ?_) (fun c_51_2 => ?_)
    · exact (by exfalso; omega)
    · refine pg_ca 9 (L := [0 ≤ a ∧ a < (1728 : Int), 0 ≤ a ∧ a < (1728 : Int)]) (Mc := pm_T_product) (as := [.inr (.inr 0), .inl (g 3 a.toNat), .inl (g 3 a.toNat)]) (h0 := rm g s n) (pc := 70) (lv := [(0, .inr (.inr 0)), (1, .inl z), (2, .inl w), (3, .inl a)]) (rest := []) rfl ⟨⟨by omega, by omega⟩, ⟨by omega, by omega⟩⟩ (re_product (g := g) hB (g 3 a.toNat) (g 3 a.toNat) hmb hmb) ?_
      intro r_1 h_1 e_1; obtain ⟨er_, g34, eh_, ef34⟩ := e_1; rw [er_, eh_]; have hB34 := rm_B_fr hB ef34 (by decide); have e17_34 : g34 17 = g 17 := ef34.1 17 (by decide) (by decide)
      have hin2_34 : g34 17 (mt_pr s n (g 3 a.toNat) (g 3 a.toNat)).toNat = g 17 (mt_pr s n (g 3 a.toNat) (g 3 a.toNat)).toNat := by rw [e17_34]
      refine pg_br 5 (L := [0 ≤ (mt_pr s n (g 3 a.toNat) (g 3 a.toNat)) ∧ (mt_pr s n (g 3 a.toNat) (g 3 a.toNat)) < (1728 : Int)]) (P := pg_inR (g34 17 ((mt_pr s n (g 3 a.toNat) (g 3 a.toNat)).toNat))) (c := ¬ (g34 17 ((mt_pr s n (g 3 a.toNat) (g 3 a.toNat)).toNat)) = 0) (st1 := (172, [(0, .inr (.inr 0)), (1, .inl z), (2, .inl w), (3, .inl a), (4, .inl (mt_pr s n (g 3 a.toNat) (g 3 a.toNat)))], [], rm g34 s n)) (st2 := (82, [(0, .inr (.inr 0)), (1, .inl z), (2, .inl w), (3, .inl a), (4, .inl (mt_pr s n (g 3 a.toNat) (g 3 a.toNat)))], [], rm g34 s n)) rfl ⟨by omega, by omega⟩ ⟨by omega, by omega⟩ (fun c_79_3 => ?_) (fun c_79_3 => ?_)
      · refine pg_go 2 (L := []) (st' := (46, [(0, .inr (.inr 0)), (1, .inl z), (2, .inl w), (3, .inl (a + 1)), (4, .inl (mt_pr s n (g 3 a.toNat) (g 3 a.toNat)))], [], rm g34 s n)) rfl trivial ?_
        refine pg_pick [0, 1, 2, 3] rfl ?_
        have h1 : (mt_pr s n (g 3 a.toNat) (g 3 a.toNat)) ∈ (rv_lr (mt_pr s n) (g0 3) a.toNat).2 := hin.2.mp (by rcases hin.1 with h2 | h2 <;> omega)
        refine ih _ _ _ _ (by omega) (by omega) (rf_tr hf ef34 (by decide) (by decide)) ?_ ?_ ?_ ?_
        all_goals rw [ek]
        all_goals simp only [rv_lr]
        all_goals rw [← e3]
        all_goals unfold rv_take
        all_goals rw [e3]
        all_goals rw [← e3, if_pos (by rw [e3]; rw [e3] at h1; exact h1)]
        all_goals (try rw [e3])
        · exact rv_H_fr hH ef34 (by decide)
        · exact hz
        · exact hw
        · omega
      · refine pg_go 8 (L := [0 ≤ w ∧ w < (1728 : Int)]) (st' := (96, [(0, .inr (.inr 0)), (1, .inl z), (2, .inl (w + 1)), (3, .inl a), (4, .inl (mt_pr s n (g 3 a.toNat) (g 3 a.toNat))), (5, .inl 0)], [], pg_up (rm g34 s n) 18 w.toNat (mt_pr s n (g 3 a.toNat) (g 3 a.toNat)))) rfl ⟨by omega, by omega⟩ ?_
        rw [rm_upq (q := 18) (by decide)]
        have h1 : (mt_pr s n (g 3 a.toNat) (g 3 a.toNat)) ∉ (rv_lr (mt_pr s n) (g0 3) a.toNat).2 := fun h => by have := hin.2.mpr h; omega
        have htk : (rv_lr (mt_pr s n) (g0 3) (a + 1).toNat) = ((rv_lr (mt_pr s n) (g0 3) a.toNat).1 ++ [(mt_pr s n (g 3 a.toNat) (g 3 a.toNat))], bf (hv_S (mt_pr s n) ((rv_lr (mt_pr s n) (g0 3) a.toNat).1 ++ [(mt_pr s n (g 3 a.toNat) (g 3 a.toNat))])) 5184 0 (rv_lr (mt_pr s n) (g0 3) a.toNat).2) := by
          rw [ek]
          simp only [rv_lr]
          unfold rv_take
          rw [← e3]
          rw [← e3] at h1
          rw [if_neg h1]
        have hf2 : rf [16, 17, 18] [15, 16] g0 (pg_up g34 18 w.toNat (mt_pr s n (g 3 a.toNat) (g 3 a.toNat))) := (rf_q (rf_tr hf ef34 (by decide) (by decide)) (by decide) (by decide) _ _)
        refine re_hv_i hB0 hS0 (G := (rv_lr (mt_pr s n) (g0 3) a.toNat).1 ++ [(mt_pr s n (g 3 a.toNat) (g 3 a.toNat))]) (LL := (rv_lr (mt_pr s n) (g0 3) (a + 1).toNat).2) (by simp; omega) (by omega) ?_ 5184 _ z 0 (rv_lr (mt_pr s n) (g0 3) a.toNat).2 (by omega) (by omega) hf2 ?_ hz (by rw [htk]; rfl)
        · intro g2 z2 b2 k1 k2 k3
          refine pg_go 2 (L := []) (st' := (46, [(0, .inr (.inr 0)), (1, .inl z2), (2, .inl (w + 1)), (3, .inl (a + 1)), (4, .inl (mt_pr s n (g 3 a.toNat) (g 3 a.toNat))), (5, .inl b2)], [], rm g2 s n)) rfl trivial ?_
          refine pg_pick [0, 1, 2, 3] rfl ?_
          refine ih g2 z2 _ _ (by omega) (by omega) k1 ?_ k3 ?_ ?_
          · rw [show (rv_lr (mt_pr s n) (g0 3) (a + 1).toNat).1 = (rv_lr (mt_pr s n) (g0 3) a.toNat).1 ++ [(mt_pr s n (g 3 a.toNat) (g 3 a.toNat))] by rw [htk]]; exact k2
          · rw [htk]; simp; omega
          · rw [htk]; simp; omega
        · rw [show w.toNat = (rv_lr (mt_pr s n) (g0 3) a.toNat).1.length by omega]
          exact rv_H_mk (rv_H_fr hH ef34 (by decide)) hpq
set_option maxRecDepth 20000 in
set_option maxHeartbeats 4000000 in
theorem re_hv_z {g0 : pg_H} {s n : Int} (hB0 : rm_B g0 s n) (hS0 : ri_S g0 s n) : ∀ (d : Nat) (g : pg_H) (m : Int) (hd : m + (d : Int) = 1728) (hm : 0 ≤ m) (hf : rf [16, 17, 18] [15, 16] g0 g) (hI : ∀ p : Nat, (p : Int) < m → g 17 p = 0), pg_Good false pm_T_halves (fun r h' => ∃ g', h' = rm g' s n ∧ rf [16, 17, 18] [15, 16] g0 g' ∧ r = some (.inl (pg_cn (mt_sm (g0 1) s n) (2 * mt_rd s * (n * n)).toNat / (rv_run (mt_pr s n) (mt_sm (g0 1) s n) (2 * mt_rd s * (n * n)).toNat).2.length - 1))) (6, [(0, .inr (.inr 0)), (1, .inl m)], [], rm g s n) := by
  intro d
  induction d with
  | zero =>
    intro g m hd hm hf hI
    have hB := rm_B_fr hB0 hf (by decide)
    obtain ⟨hs, hn, -⟩ := id hB
    obtain ⟨hn1, hn2⟩ := id hn
    have hr := mt_rd_or hs
    have hN := mt_2rn hs hn
    have e3 : g 3 = g0 3 := hf.1 3 (by decide) (by decide)
    have e6 : g 0 6 = g0 0 6 := hf.2 6 (by decide)
    have hcb := pg_cn_bd (mt_sm (g0 1) s n) (2 * mt_rd s * (n * n)).toNat
    have h6 : g0 0 6 = pg_cn (mt_sm (g0 1) s n) (2 * mt_rd s * (n * n)).toNat := hS0.1
    refine pg_br 2 (L := []) (P := pg_inR m ∧ pg_inR 1728) (c := 1728 ≤ m) (st1 := (26, [(0, .inr (.inr 0)), (1, .inl m)], [], rm g s n)) (st2 := (13, [(0, .inr (.inr 0)), (1, .inl m)], [], rm g s n)) rfl trivial ⟨⟨by omega, by omega⟩, ⟨by decide, by decide⟩⟩ (fun c_10_1 => ?_) (fun c_10_1 => ?_)
    · refine pg_go 16 (L := [0 ≤ 0 ∧ 0 < (1728 : Int), 0 ≤ 0 ∧ 0 < (1728 : Int), 1 = 0 ∨ 1 = 1]) (st' := (46, [(0, .inr (.inr 0)), (1, .inl 1), (2, .inl 0), (3, .inl 0)], [], pg_up (pg_up (rm g s n) 16 0 0) 17 0 1)) rfl ⟨⟨by omega, by omega⟩, ⟨by omega, by omega⟩, Or.inr rfl⟩ ?_
      rw [rm_upq (q := 16) (by decide), rm_upq (q := 17) (by decide)]
      refine re_hv_s hB0 hS0 (pg_cn (mt_sm (g0 1) s n) (2 * mt_rd s * (n * n)).toNat).toNat _ 1 0 0 (by omega) (by omega) (rf_q (rf_q hf (by decide) (by decide) _ _) (by decide) (by decide) _ _) ?_ rfl rfl (by show (0 : Int) ≤ 0; decide)
      have hz : ∀ p : Nat, p < 1728 → g 17 p = 0 := fun p hp => hI p (by omega)
      have h0 : rv_H (pg_up g 16 0 0) s n [] [] := by
        refine ⟨fun j x hj => by simp at hj, fun p hp => ⟨Or.inl (hz p hp), ?_⟩, ?_, fun x hx => by simp at hx, fun j x hj => by simp at hj, fun x hx => by simp at hx⟩
        · have := hz p hp
          constructor
          · intro h; have h : g 17 p = 1 := h; omega
          · intro h; simp at h
        · show ((0 : Nat) : Int) = _
          rw [pg_cn_0 (fun j hj h => by have h : g 17 j = 1 := h; have := hz j hj; omega)]; rfl
      have h1 := rv_H_add h0 (p := 0) (by omega) (by decide) (by have := hz 0 (by decide); show ¬ g 17 0 = 1; omega)
      refine ⟨fun j x hj => ?_, h1.2.1, h1.2.2.1, h1.2.2.2.1, fun j x hj => by simp [rv_lr] at hj, fun x hx => by simp [rv_lr] at hx⟩
      have hj : ([0] : List Int)[j]? = some x := hj
      have hjl := (List.getElem?_eq_some_iff.mp hj).1
      simp at hjl
      subst hjl
      simp at hj
      rw [← hj]; rfl
    · exact (by exfalso; omega)
  | succ d ih =>
    intro g m hd hm hf hI
    have hB := rm_B_fr hB0 hf (by decide)
    obtain ⟨hs, hn, -⟩ := id hB
    obtain ⟨hn1, hn2⟩ := id hn
    have hr := mt_rd_or hs
    have hN := mt_2rn hs hn
    have e3 : g 3 = g0 3 := hf.1 3 (by decide) (by decide)
    have e6 : g 0 6 = g0 0 6 := hf.2 6 (by decide)
    have hcb := pg_cn_bd (mt_sm (g0 1) s n) (2 * mt_rd s * (n * n)).toNat
    have h6 : g0 0 6 = pg_cn (mt_sm (g0 1) s n) (2 * mt_rd s * (n * n)).toNat := hS0.1
    refine pg_br 2 (L := []) (P := pg_inR m ∧ pg_inR 1728) (c := 1728 ≤ m) (st1 := (26, [(0, .inr (.inr 0)), (1, .inl m)], [], rm g s n)) (st2 := (13, [(0, .inr (.inr 0)), (1, .inl m)], [], rm g s n)) rfl trivial ⟨⟨by omega, by omega⟩, ⟨by decide, by decide⟩⟩ (fun c_10_2 => ?_) (fun c_10_2 => ?_)
    · exact (by exfalso; omega)
    · refine pg_go 7 (L := [0 ≤ m ∧ m < (1728 : Int), 0 = 0 ∨ 0 = 1]) (st' := (6, [(0, .inr (.inr 0)), (1, .inl (m + 1))], [], pg_up (rm g s n) 17 m.toNat 0)) rfl ⟨⟨by omega, by omega⟩, Or.inl rfl⟩ ?_
      rw [rm_upq (q := 17) (by decide)]
      refine ih _ _ (by omega) (by omega) (rf_q hf (by decide) (by decide) _ _) (fun p hp => ?_)
      rw [pg_up_at]
      split
      · rfl
      · exact hI p (by omega)
set_option maxRecDepth 20000 in
set_option maxHeartbeats 4000000 in
theorem re_halves {g : pg_H} {s n : Int} (hB : rm_B g s n) (hC : ri_C g) (hK : ri_K g s n) : pg_Sem false pm_T_halves [.inr (.inr 0)] (rm g s n) (fun r h' => ∃ g', h' = rm g' s n ∧ rf [3, 16, 17, 18] [6, 7, 15, 16] g g' ∧ ri_K g' s n ∧ g' 0 7 = 1 ∧ r = some (.inl (pg_cn (mt_sm (g 1) s n) (2 * mt_rd s * (n * n)).toNat / (rv_run (mt_pr s n) (mt_sm (g 1) s n) (2 * mt_rd s * (n * n)).toNat).2.length - 1))) := by
  obtain ⟨hs, hn, hT⟩ := id hB
  obtain ⟨hn1, hn2⟩ := id hn
  have hr := mt_rd_or hs
  refine pg_Sem_of pm_T_halves_f rfl ?_
  refine pg_ca 1 (L := []) (Mc := pm_T_findSymmetries) (as := [.inr (.inr 0)]) (h0 := rm g s n) (pc := 4) (lv := [(0, .inr (.inr 0))]) (rest := []) rfl trivial (re_findSymmetries (g := g) hB hC hK) ?_
  intro r_1 h_1 e_1; obtain ⟨er_, g35, eh_, ef35, e735, hS35⟩ := e_1; rw [er_, eh_]; have hB35 := rm_B_fr hB ef35 (by decide); have hC35 := ri_C_fr hC ef35 (by decide)
  have e1_35 : g35 1 = g 1 := ef35.1 1 (by decide) (by decide)
  refine pg_go 2 (L := []) (st' := (6, [(0, .inr (.inr 0)), (1, .inl 0)], [], rm g35 s n)) rfl trivial ?_
  refine po_st_mono (re_hv_z hB35 hS35 1728 _ 0 (by omega) (by omega) (rf_rf _ _ _) (fun p hp => absurd hp (by omega))) (fun r_ h_ hq => ?_)
  obtain ⟨g3, q2, q3, q4⟩ := hq
  rw [e1_35] at q4
  have q7 : g3 0 7 = 1 := by rw [q3.2 7 (by decide)]; exact e735
  exact ⟨g3, q2, rf_tr (rf_w ef35 (cs := [3, 16, 17, 18]) (fs := [6, 7, 15, 16]) (by decide) (by decide)) q3 (by decide) (by decide), Or.inr ⟨q7, ri_S_fr hS35 q3 (by decide)⟩, q7, q4⟩
