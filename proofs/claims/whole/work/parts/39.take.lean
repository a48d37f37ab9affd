/-! Halves: take -/
theorem bf_add_pre {L : List Int} {p : Int} {j : Nat} (hj : j < L.length) : (bf_add L p)[j]? = L[j]? := by
  unfold bf_add
  split
  · rfl
  · rw [List.getElem?_append_left hj]
theorem bf_add_len (L : List Int) (p : Int) : L.length ≤ (bf_add L p).length := by
  unfold bf_add
  split
  · exact Nat.le_refl _
  · simp
theorem bf_ads_len (A : List Int) : ∀ L : List Int, L.length ≤ (bf_ads L A).length := by
  induction A with
  | nil => intro L; exact Nat.le_refl _
  | cons a r ih => intro L; exact Nat.le_trans (bf_add_len L a) (ih _)
theorem bf_ads_pre (A : List Int) : ∀ (L : List Int) {j : Nat}, j < L.length → (bf_ads L A)[j]? = L[j]? := by
  induction A with
  | nil => intro L j hj; rfl
  | cons a r ih =>
    intro L j hj
    have h1 := bf_add_len L a
    show (bf_ads (bf_add L a) r)[j]? = _
    rw [ih _ (by omega), bf_add_pre hj]
theorem bf_ads_snoc (L A : List Int) (p : Int) : bf_ads L (A ++ [p]) = bf_add (bf_ads L A) p := by
  rw [bf_ads_app]
  rfl
theorem bf_ads_in {P : Int → Prop} (A : List Int) : ∀ L : List Int, (∀ x ∈ L, P x) → (∀ x ∈ A, P x) → ∀ x ∈ bf_ads L A, P x := by
  induction A with
  | nil => intro L h1 h2 x hx; exact h1 x hx
  | cons a r ih =>
    intro L h1 h2
    refine ih (bf_add L a) (fun x hx => ?_) (fun x hx => h2 x (List.mem_cons_of_mem _ hx))
    rcases bf_add_mem.mp hx with hx | rfl
    · exact h1 x hx
    · exact h2 _ List.mem_cons_self
theorem list_take_s {A : List Int} {j : Nat} {y : Int} (h : A[j]? = some y) : A.take (j + 1) = A.take j ++ [y] := by
  have hl := (List.getElem?_eq_some_iff.mp h)
  obtain ⟨h1, h2⟩ := hl
  rw [List.take_succ, h]
  rfl
theorem list_at {A : List Int} {j : Nat} (h : j < A.length) : ∃ y, A[j]? = some y := ⟨A[j], List.getElem?_eq_getElem h⟩
set_option maxHeartbeats 4000000 in
theorem hv_tk_b {h : pg_H} {s n : Int} (hB : cm_B h s n) {G : List Int} {F0 j0 : Nat} {L0 L : List Int} {sq a x : Int} (ha0 : 0 ≤ a ∧ a < 5184) (hxL : L[a.toNat]? = some x) (hxb : 0 ≤ x ∧ x < 2 * mt_rd s * (n * n)) : ∀ (d : Nat) (g : pg_H) (b : Int) (hd : b + (d : Int) = G.length) (hb : 0 ≤ b) (hf : pg_fr [1, 2, 3] h g) (hH : hv_H g s n G (bf_ads L ((hv_S (mt_pr s n) G x).take b.toNat))) (hK : ∀ g2 : pg_H, pg_fr [1, 2, 3] h g2 → hv_H g2 s n G (bf_ads L (hv_S (mt_pr s n) G x)) → pg_Good true pm_H_take (fun r h' => r = none ∧ pg_fr [1, 2, 3] h h' ∧ hv_H h' s n G (bf (hv_S (mt_pr s n) G) F0 j0 L0)) (106, [(0, .inr (.inr 18)), (1, .inl sq), (2, .inl a)], [], g2)), pg_Good true pm_H_take (fun r h' => r = none ∧ pg_fr [1, 2, 3] h h' ∧ hv_H h' s n G (bf (hv_S (mt_pr s n) G) F0 j0 L0)) (63, [(0, .inr (.inr 18)), (1, .inl sq), (2, .inl a), (3, .inl b)], [], g) := by
  intro d
  induction d with
  | zero =>
    intro g b hd hb hf hH hK
    obtain ⟨hs, ⟨hn1, hn2⟩, e1, e2, e3, e5⟩ := id hB
    have hr := mt_rd_or hs
    have hBg := cm_B_fr hB hf (by decide) (by decide)
    obtain ⟨hL, hu1, hu2, hO, hG, hLm⟩ := id hH
    have g18 : g 18 = h 18 := hf 18 (by decide)
    refine pg_br 3 (L := []) (P := pg_inR b ∧ pg_inR (g 18 4)) (c := (g 18 4) ≤ b) (st1 := (106, [(0, .inr (.inr 18)), (1, .inl sq), (2, .inl a), (3, .inl b)], [], g)) (st2 := (71, [(0, .inr (.inr 18)), (1, .inl sq), (2, .inl a), (3, .inl b)], [], g)) rfl trivial ⟨⟨by omega, by omega⟩, ⟨by omega, by omega⟩⟩ (fun c_68_1 => ?_) (fun c_68_1 => ?_)
    · refine pg_pick [0, 1, 2] rfl ?_
      refine hK g hf ?_
      rw [List.take_of_length_le (by unfold hv_S; rw [List.length_map]; omega)] at hH
      exact hH
    · exact (by exfalso; omega)
  | succ d ih =>
    intro g b hd hb hf hH hK
    have ha := ha0.2
    replace ha0 := ha0.1
    obtain ⟨hs, ⟨hn1, hn2⟩, e1, e2, e3, e5⟩ := id hB
    have hr := mt_rd_or hs
    have hBg := cm_B_fr hB hf (by decide) (by decide)
    obtain ⟨hL, hu1, hu2, hO, hG, hLm⟩ := id hH
    have g18 : g 18 = h 18 := hf 18 (by decide)
    obtain ⟨y, hy⟩ := list_at (A := G) (j := b.toNat) (by omega)
    have hyo := hO _ _ hy
    have hyb := hG y (List.mem_of_getElem? hy)
    have hxl : a.toNat < L.length := (List.getElem?_eq_some_iff.mp hxL).1
    have hx : (bf_ads L ((hv_S (mt_pr s n) G x).take b.toNat))[a.toNat]? = some x := by rw [bf_ads_pre _ _ hxl]; exact hxL
    have hpq := mt_pr_bd hs ⟨hn1, hn2⟩ hxb hyb
    have hpb : 0 ≤ mt_pr s n x (g 19 b.toNat) ∧ mt_pr s n x (g 19 b.toNat) < 5184 := by rw [hyo]; exact mt_2rd hs ⟨hn1, hn2⟩ hpq
    have esn : (hv_S (mt_pr s n) G x).take (b.toNat + 1) = (hv_S (mt_pr s n) G x).take b.toNat ++ [mt_pr s n x y] := list_take_s (by unfold hv_S; rw [List.getElem?_map, hy]; rfl)
    have eb : (b + 1).toNat = b.toNat + 1 := by omega
    refine pg_br 3 (L := []) (P := pg_inR b ∧ pg_inR (g 18 4)) (c := (g 18 4) ≤ b) (st1 := (106, [(0, .inr (.inr 18)), (1, .inl sq), (2, .inl a), (3, .inl b)], [], g)) (st2 := (71, [(0, .inr (.inr 18)), (1, .inl sq), (2, .inl a), (3, .inl b)], [], g)) rfl trivial ⟨⟨by omega, by omega⟩, ⟨by omega, by omega⟩⟩ (fun c_68_2 => ?_) (fun c_68_2 => ?_)
    · exact (by exfalso; omega)
    · refine pg_ca 7 (L := []) (Mc := pm_R_at) (as := [.inr (.inr 1), .inl a]) (h0 := g) (pc := 87) (lv := [(0, .inr (.inr 18)), (1, .inl sq), (2, .inl a), (3, .inl b)]) (rest := [.inr (.inr 4), .inr (.inr 1)]) rfl trivial (rl_at hL a x ha0 hx) ?_
      intro r_1 h_1 e_1; rw [e_1.1, e_1.2]
      refine pg_ca 4 (L := [0 ≤ b ∧ b < (11 : Int)]) (Mc := pm_M_product) (as := [.inr (.inr 4), .inl x, .inl (g 19 b.toNat)]) (h0 := g) (pc := 96) (lv := [(0, .inr (.inr 18)), (1, .inl sq), (2, .inl a), (3, .inl b)]) (rest := [.inr (.inr 1)]) rfl ⟨by omega, by omega⟩ (cm_product hBg x (g 19 b.toNat) hxb (by rw [hyo]; exact hyb)) ?_
      intro r_1 h_1 e_1; rw [e_1.1, e_1.2]
      refine pg_ca 0 (L := []) (Mc := pm_R_add) (as := [.inr (.inr 1), .inl (mt_pr s n x (g 19 b.toNat))]) (h0 := g) (pc := 99) (lv := [(0, .inr (.inr 18)), (1, .inl sq), (2, .inl a), (3, .inl b)]) (rest := []) rfl trivial (rl_add hL (mt_pr s n x (g 19 b.toNat)) hpb) ?_
      intro r_1 g2 e_1; obtain ⟨er_, eL_, ef_⟩ := e_1; rw [er_]; have hf2 := pg_fr_tr hf ef_ (by decide)
      refine pg_go 3 (L := []) (st' := (63, [(0, .inr (.inr 18)), (1, .inl sq), (2, .inl a), (3, .inl (b + 1))], [], g2)) rfl trivial ?_
      refine ih g2 _ (by omega) (by omega) hf2 ?_ hK
      rw [eb, esn, bf_ads_snoc]
      rw [hyo] at eL_
      refine ⟨eL_, ?_, hu2, ?_, hG, fun z hz => ?_⟩
      · rw [ef_ 18 (by decide)]; exact hu1
      · rw [ef_ 19 (by decide)]; exact hO
      · rcases bf_add_mem.mp hz with hz | rfl
        · exact hLm z hz
        · exact hpq
theorem hv_tk_a {h : pg_H} {s n : Int} (hB : cm_B h s n) {G : List Int} {sq : Int} {LL : List Int} : ∀ (d : Nat) (g : pg_H) (a : Int) (L : List Int) (hd : a + (d : Int) = 5184) (ha : 0 ≤ a) (hf : pg_fr [1, 2, 3] h g) (hH : hv_H g s n G L) (hLL : LL = bf (hv_S (mt_pr s n) G) d a.toNat L), pg_Good true pm_H_take (fun r h' => r = none ∧ pg_fr [1, 2, 3] h h' ∧ hv_H h' s n G LL) (43, [(0, .inr (.inr 18)), (1, .inl sq), (2, .inl a)], [], g) := by
  intro d
  induction d with
  | zero =>
    intro g a L hd ha hf hH hLL
    obtain ⟨hs, ⟨hn1, hn2⟩, e1, e2, e3, e5⟩ := id hB
    have hr := mt_rd_or hs
    have hBg := cm_B_fr hB hf (by decide) (by decide)
    obtain ⟨hL, hu1, hu2, hO, hG, hLm⟩ := id hH
    have g18 : g 18 = h 18 := hf 18 (by decide)
    have hle := rc_I_le hL.1
    have hln := hL.2.1
    have hge := hL.1.1.1
    refine pg_br 4 (L := []) (P := pg_inR a ∧ pg_inR (g 1 2)) (c := (g 1 2) ≤ a) (st1 := (112, [(0, .inr (.inr 18)), (1, .inl sq), (2, .inl a)], [], g)) (st2 := (54, [(0, .inr (.inr 18)), (1, .inl sq), (2, .inl a)], [], g)) rfl trivial ⟨⟨by omega, by omega⟩, ⟨by omega, by omega⟩⟩ (fun c_51_1 => ?_) (fun c_51_1 => ?_)
    · refine pg_re 0 (L := []) (r := none) (h0 := g) rfl trivial ?_
      refine ⟨rfl, hf, ?_⟩
      rw [hLL]
      exact hH
    · exact (by exfalso; omega)
  | succ d ih =>
    intro g a L hd ha hf hH hLL
    obtain ⟨hs, ⟨hn1, hn2⟩, e1, e2, e3, e5⟩ := id hB
    have hr := mt_rd_or hs
    have hBg := cm_B_fr hB hf (by decide) (by decide)
    obtain ⟨hL, hu1, hu2, hO, hG, hLm⟩ := id hH
    have g18 : g 18 = h 18 := hf 18 (by decide)
    have hle := rc_I_le hL.1
    have hln := hL.2.1
    have hge := hL.1.1.1
    refine pg_br 4 (L := []) (P := pg_inR a ∧ pg_inR (g 1 2)) (c := (g 1 2) ≤ a) (st1 := (112, [(0, .inr (.inr 18)), (1, .inl sq), (2, .inl a)], [], g)) (st2 := (54, [(0, .inr (.inr 18)), (1, .inl sq), (2, .inl a)], [], g)) rfl trivial ⟨⟨by omega, by omega⟩, ⟨by omega, by omega⟩⟩ (fun c_51_2 => ?_) (fun c_51_2 => ?_)
    · refine pg_re 0 (L := []) (r := none) (h0 := g) rfl trivial ?_
      refine ⟨rfl, hf, ?_⟩
      rw [hLL]
      have hnone : L[a.toNat]? = none := List.getElem?_eq_none (by omega)
      simp only [bf, hnone]
      exact hH
    · refine pg_br 2 (L := []) (P := pg_inR a ∧ pg_inR 5184) (c := 5184 ≤ a) (st1 := (112, [(0, .inr (.inr 18)), (1, .inl sq), (2, .inl a)], [], g)) (st2 := (61, [(0, .inr (.inr 18)), (1, .inl sq), (2, .inl a)], [], g)) rfl trivial ⟨⟨by omega, by omega⟩, ⟨by decide, by decide⟩⟩ (fun c_58_3 => ?_) (fun c_58_3 => ?_)
      · exact (by exfalso; omega)
      · refine pg_go 2 (L := []) (st' := (63, [(0, .inr (.inr 18)), (1, .inl sq), (2, .inl a), (3, .inl 0)], [], g)) rfl trivial ?_
        obtain ⟨x, hx⟩ := list_at (A := L) (j := a.toNat) (by omega)
        have hbf : bf (hv_S (mt_pr s n) G) (d + 1) a.toNat L = bf (hv_S (mt_pr s n) G) d (a.toNat + 1) (bf_ads L (hv_S (mt_pr s n) G x)) := by simp only [bf]; rw [hx]
        have hxb := hLm x (List.mem_of_getElem? hx)
        rw [hLL]
        refine hv_tk_b hB (F0 := d + 1) (j0 := a.toNat) (L0 := L) (L := L) ⟨ha, by omega⟩ hx hxb G.length g 0 (by omega) (by omega) hf (by rw [show (0 : Int).toNat = 0 from rfl, List.take_zero]; exact hH) (fun g2 hf2 hH2 => ?_)
        refine pg_go 2 (L := []) (st' := (43, [(0, .inr (.inr 18)), (1, .inl sq), (2, .inl (a + 1))], [], g2)) rfl trivial ?_
        rw [← hLL]
        exact ih g2 _ _ (by omega) (by omega) hf2 hH2 (by rw [hLL, hbf, show (a + 1).toNat = a.toNat + 1 by omega])
set_option maxHeartbeats 4000000 in
theorem hv_tk {h : pg_H} {s n : Int} (hB : cm_B h s n) {G : List Int} {L : List Int} (hH : hv_H h s n G L) {sq : Int} (hsq : 0 ≤ sq ∧ sq < 2 * mt_rd s * (n * n)) : pg_Sem true pm_H_take [.inr (.inr 18), .inl sq] h (fun r h' => r = none ∧ pg_fr [1, 2, 3, 18, 19] h h' ∧ (∀ j, j ≠ 4 → h' 18 j = h 18 j) ∧ hv_H h' s n (hv_take (mt_pr s n) (G, L) sq).1 (hv_take (mt_pr s n) (G, L) sq).2) := by
  obtain ⟨hs, ⟨hn1, hn2⟩, e1, e2, e3, e5⟩ := id hB
  have hr := mt_rd_or hs
  obtain ⟨hL, hu1, hu2, hO, hG, hLm⟩ := id hH
  have hbo := pg_b_or (sq ∈ L)
  refine pg_Sem_of pm_H_take_f rfl ?_
  refine pg_ca 3 (L := []) (Mc := pm_R_has) (as := [.inr (.inr 1), .inl sq]) (h0 := h) (pc := 8) (lv := [(0, .inr (.inr 18)), (1, .inl sq)]) (rest := []) rfl trivial (rl_has hL sq (mt_2rd hs ⟨hn1, hn2⟩ hsq)) ?_
  intro r_1 h_1 e_1; rw [e_1.1, e_1.2]
  refine pg_br 0 (L := []) (P := pg_inR (pg_b (sq ∈ L))) (c := ¬ (pg_b (sq ∈ L)) = 0) (st1 := (20, [(0, .inr (.inr 18)), (1, .inl sq)], [], h)) (st2 := (11, [(0, .inr (.inr 18)), (1, .inl sq)], [], h)) rfl trivial ⟨by omega, by omega⟩ (fun c_8_1 => ?_) (fun c_8_1 => ?_)
  · refine pg_re 0 (L := []) (r := none) (h0 := h) rfl trivial ?_
    refine ⟨rfl, pg_fr_rf _ _, fun _ _ => rfl, ?_⟩
    have hc : sq ∈ L ∨ 11 ≤ G.length := by
      rcases hbo with hq | hq
      · exact Or.inl hq.1
      · exact Or.inr (by omega)
    unfold hv_take
    rw [if_pos hc]
    exact hH
  · refine pg_br 3 (L := []) (P := pg_inR (h 18 4) ∧ pg_inR 11) (c := (h 18 4) < 11) (st1 := (21, [(0, .inr (.inr 18)), (1, .inl sq)], [], h)) (st2 := (20, [(0, .inr (.inr 18)), (1, .inl sq)], [], h)) rfl trivial ⟨⟨by omega, by omega⟩, ⟨by decide, by decide⟩⟩ (fun c_17_2 => ?_) (fun c_17_2 => ?_)
    · refine pg_go 14 (L := [0 ≤ (h 18 4) ∧ (h 18 4) < (11 : Int)]) (st' := (43, [(0, .inr (.inr 18)), (1, .inl sq), (2, .inl 0)], [], pg_up (pg_up h 19 ((h 18 4).toNat) sq) 18 4 ((h 18 4) + 1))) rfl ⟨by omega, by omega⟩ ?_
      have hno : ¬ (sq ∈ L ∨ 11 ≤ G.length) := by
        rcases hbo with hq | hq
        · omega
        · intro hz; rcases hz with hz | hz
          · exact hq.1 hz
          · omega
      have hH2 : hv_H (pg_up (pg_up h 19 ((h 18 4).toNat) sq) 18 4 ((h 18 4) + 1)) s n (G ++ [sq]) L := by
        refine ⟨rc_L_fr (pg_fr_up (pg_fr_up (pg_fr_rf [18, 19] h) (by decide) _ _) (by decide) _ _) (by decide) (by decide) (by decide) hL, ?_, by simp; omega, fun j x hj => ?_, fun x hx => ?_, hLm⟩
        · show h 18 4 + 1 = _; simp; omega
        · rw [pg_up_ne _ _ _ (by decide), pg_up_at]
          have hjl : j < (G ++ [sq]).length := (List.getElem?_eq_some_iff.mp hj).1
          simp at hjl
          by_cases hc : j = (h 18 4).toNat
          · rw [if_pos hc]; rw [List.getElem?_append_right (by omega)] at hj; rw [show j - G.length = 0 by omega] at hj; simpa using hj
          · rw [if_neg hc]; rw [List.getElem?_append_left (by omega)] at hj; exact hO j x hj
        · rcases List.mem_append.mp hx with hx | hx
          · exact hG x hx
          · rw [List.mem_singleton.mp hx]; exact hsq
      refine po_st_mono (hv_tk_a (h := pg_up (pg_up h 19 ((h 18 4).toNat) sq) 18 4 ((h 18 4) + 1)) (cm_B_up (cm_B_up hB (by decide) (by decide)) (by decide) (by decide)) 5184 _ _ L (by omega) (by omega) (pg_fr_rf _ _) hH2 rfl) ?_
      rintro r h' ⟨e1, e2, e3⟩
      refine ⟨e1, pg_fr_tr (pg_fr_up (pg_fr_up (pg_fr_rf _ h) (by decide) _ _) (by decide) _ _) e2 (by decide), fun j hj => ?_, ?_⟩
      · rw [e2 18 (by decide), pg_up_at, if_neg hj, pg_up_ne _ _ _ (by decide)]
      · unfold hv_take; rw [if_neg hno]; exact e3
    · refine pg_re 0 (L := []) (r := none) (h0 := h) rfl trivial ?_
      refine ⟨rfl, pg_fr_rf _ _, fun _ _ => rfl, ?_⟩
      have hc : sq ∈ L ∨ 11 ≤ G.length := by
        rcases hbo with hq | hq
        · exact Or.inl hq.1
        · exact Or.inr (by omega)
      unfold hv_take
      rw [if_pos hc]
      exact hH
