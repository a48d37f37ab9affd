/-! Halves: takeSquaresOf, total -/
noncomputable def hv_run (pr : Int → Int → Int) (P : Nat → Prop) : Nat → List Int × List Int
  | 0 => ([], [0])
  | m + 1 => @ite _ (P m) (Classical.propDecidable _) (hv_take pr (hv_run pr P m) (pr m m)) (hv_run pr P m)
theorem hv_run_t {pr : Int → Int → Int} {P : Nat → Prop} {m : Nat} (h : P m) : hv_run pr P (m + 1) = hv_take pr (hv_run pr P m) (pr m m) := if_pos h
theorem hv_run_f {pr : Int → Int → Int} {P : Nat → Prop} {m : Nat} (h : ¬ P m) : hv_run pr P (m + 1) = hv_run pr P m := if_neg h
/-- the moves that are SYMMETRIES, by number, as the class knows them -/
def sy_Pc (h : pg_H) (n : Int) (m : Nat) : Prop := sy_P h ((m : Int) / (n * n)) ((m : Int) / n % n) ((m : Int) % n)
theorem mt_cd_in {n k u v : Int} (hn : 1 ≤ n) (hk : 0 ≤ k) (hu : 0 ≤ u ∧ u < n) (hv : 0 ≤ v ∧ v < n) : ((k * n + u) * n + v) / (n * n) = k ∧ ((k * n + u) * n + v) / n % n = u ∧ ((k * n + u) * n + v) % n = v ∧ 0 ≤ (k * n + u) * n + v := by
  have h1 := mt_dm (u := k * n + u) hn hv
  have h2 := mt_dm (u := k) hn hu
  have h3 : 0 ≤ k * n := Int.mul_nonneg hk (by omega)
  have h4 : 0 ≤ (k * n + u) * n := Int.mul_nonneg (by omega) (by omega)
  refine ⟨?_, ?_, h1.2, by omega⟩
  · rw [← Int.ediv_ediv_of_nonneg (by omega), h1.1, h2.1]
  · rw [h1.1, h2.2]
theorem sy_Pc_at {h : pg_H} {n k u v : Int} (hn : 1 ≤ n) (hk : 0 ≤ k) (hu : 0 ≤ u ∧ u < n) (hv : 0 ≤ v ∧ v < n) : sy_Pc h n ((k * n + u) * n + v).toNat ↔ sy_P h k u v := by
  obtain ⟨h1, h2, h3, h4⟩ := mt_cd_in hn hk hu hv
  unfold sy_Pc
  rw [show ((((k * n + u) * n + v).toNat : Nat) : Int) = (k * n + u) * n + v by omega, h1, h2, h3]
theorem sy_P_fr {h g : pg_H} (h10 : ∀ j, j ≠ 8 → j ≠ 9 → g 10 j = h 10 j) (h11 : g 11 = h 11) (h12 : g 12 = h 12) (k u v : Int) : sy_P g k u v ↔ sy_P h k u v := by
  unfold sy_P
  rw [h10 4 (by decide) (by decide), h10 5 (by decide) (by decide), h10 6 (by decide) (by decide), h11, h12]
theorem sy_Pc_fr {h g : pg_H} (h10 : ∀ j, j ≠ 8 → j ≠ 9 → g 10 j = h 10 j) (h11 : g 11 = h 11) (h12 : g 12 = h 12) (n : Int) : sy_Pc g n = sy_Pc h n := by
  funext m
  unfold sy_Pc
  exact propext (sy_P_fr h10 h11 h12 _ _ _)
theorem mt_cd_lt {s n k u v : Int} (hn : 1 ≤ n ∧ n ≤ 12) (hk : 0 ≤ k ∧ k < 2 * mt_rd s) (hu : 0 ≤ u ∧ u < n) (hv : 0 ≤ v ∧ v < n) : 0 ≤ (k * n + u) * n + v ∧ (k * n + u) * n + v < 2 * mt_rd s * (n * n) := by
  generalize 2 * mt_rd s = M at *
  have : n = 1 ∨ n = 2 ∨ n = 3 ∨ n = 4 ∨ n = 5 ∨ n = 6 ∨ n = 7 ∨ n = 8 ∨ n = 9 ∨ n = 10 ∨ n = 11 ∨ n = 12 := by omega
  rcases this with rfl | rfl | rfl | rfl | rfl | rfl | rfl | rfl | rfl | rfl | rfl | rfl <;> omega
noncomputable def hv_G (h : pg_H) (s n : Int) (m : Nat) : List Int := (hv_run (mt_pr s n) (sy_Pc h n) m).1
noncomputable def hv_L (h : pg_H) (s n : Int) (m : Nat) : List Int := (hv_run (mt_pr s n) (sy_Pc h n) m).2
set_option maxHeartbeats 4000000 in
theorem hv_sq_v {h : pg_H} {s n : Int} (hB : cm_B h s n) (hR : sy_R h s) {k : Int} (hk : 0 ≤ k ∧ k < 2 * mt_rd s) {u : Int} (hu : 0 ≤ u ∧ u < n) : ∀ (d : Nat) (g : pg_H) (v : Int) (hd : v + (d : Int) = n) (hv : 0 ≤ v) (hf : pg_fr [1, 2, 3, 18, 19] h g) (h18 : ∀ j, j ≠ 4 → g 18 j = h 18 j) (hH : hv_H g s n (hv_G h s n ((k * n + u) * n + v).toNat) (hv_L h s n ((k * n + u) * n + v).toNat)) (hK : ∀ g2 : pg_H, pg_fr [1, 2, 3, 18, 19] h g2 → (∀ j, j ≠ 4 → g2 18 j = h 18 j) → hv_H g2 s n (hv_G h s n ((k * n + u) * n + n).toNat) (hv_L h s n ((k * n + u) * n + n).toNat) → pg_Good true pm_H_takeSquaresOf (fun r h' => r = none ∧ pg_fr [1, 2, 3, 18, 19] h h' ∧ (∀ j, j ≠ 4 → h' 18 j = h 18 j) ∧ hv_H h' s n (hv_G h s n ((k + 1) * n * n).toNat) (hv_L h s n ((k + 1) * n * n).toNat)) (72, [(0, .inr (.inr 18)), (1, .inl k), (2, .inl u)], [], g2)), pg_Good true pm_H_takeSquaresOf (fun r h' => r = none ∧ pg_fr [1, 2, 3, 18, 19] h h' ∧ (∀ j, j ≠ 4 → h' 18 j = h 18 j) ∧ hv_H h' s n (hv_G h s n ((k + 1) * n * n).toNat) (hv_L h s n ((k + 1) * n * n).toNat)) (15, [(0, .inr (.inr 18)), (1, .inl k), (2, .inl u), (3, .inl v)], [], g) := by
  intro d
  induction d with
  | zero =>
    intro g v hd hv hf h18 hH hK
    obtain ⟨hs, ⟨hn1, hn2⟩, e1, e2, e3, e5⟩ := id hB
    have hr := mt_rd_or hs
    obtain ⟨ra, rb, rc, rl, rk⟩ := id hR
    have g42 : g 4 2 = n := by rw [hf 4 (by decide)]; exact e2
    have hBg := cm_B_fr hB hf (by decide) (by decide)
    have hRg := sy_R_fr hf (by decide) (by decide) (by decide) hR
    have eP := fun k u v => sy_P_fr (h := h) (g := g) (fun j _ _ => by rw [hf 10 (by decide)]) (hf 11 (by decide)) (hf 12 (by decide)) k u v
    refine pg_br 4 (L := []) (P := pg_inR v ∧ pg_inR (g 4 2)) (c := (g 4 2) ≤ v) (st1 := (72, [(0, .inr (.inr 18)), (1, .inl k), (2, .inl u), (3, .inl v)], [], g)) (st2 := (26, [(0, .inr (.inr 18)), (1, .inl k), (2, .inl u), (3, .inl v)], [], g)) rfl trivial ⟨⟨by omega, by omega⟩, ⟨by omega, by omega⟩⟩ (fun c_23_1 => ?_) (fun c_23_1 => ?_)
    · refine pg_pick [0, 1, 2] rfl ?_
      rw [show v = n by omega] at hH
      exact hK g hf h18 hH
    · exact (by exfalso; omega)
  | succ d ih =>
    intro g v hd hv hf h18 hH hK
    obtain ⟨hs, ⟨hn1, hn2⟩, e1, e2, e3, e5⟩ := id hB
    have hr := mt_rd_or hs
    obtain ⟨ra, rb, rc, rl, rk⟩ := id hR
    have g42 : g 4 2 = n := by rw [hf 4 (by decide)]; exact e2
    have hBg := cm_B_fr hB hf (by decide) (by decide)
    have hRg := sy_R_fr hf (by decide) (by decide) (by decide) hR
    have eP := fun k u v => sy_P_fr (h := h) (g := g) (fun j _ _ => by rw [hf 10 (by decide)]) (hf 11 (by decide)) (hf 12 (by decide)) k u v
    have hbo := pg_b_or (sy_P h k u v)
    have hat := sy_Pc_at (h := h) hn1 hk.1 hu (v := v) ⟨by omega, by omega⟩
    have hcl := mt_cd_lt ⟨hn1, hn2⟩ hk hu (v := v) ⟨by omega, by omega⟩
    have hcd : mt_cd n k u v = (k * n + u) * n + v := by unfold mt_cd; rw [Int.emod_eq_of_lt hu.1 hu.2, Int.emod_eq_of_lt hv (by omega)]
    have ek : ((k * n + u) * n + (v + 1)).toNat = ((k * n + u) * n + v).toNat + 1 := by omega
    refine pg_br 4 (L := []) (P := pg_inR v ∧ pg_inR (g 4 2)) (c := (g 4 2) ≤ v) (st1 := (72, [(0, .inr (.inr 18)), (1, .inl k), (2, .inl u), (3, .inl v)], [], g)) (st2 := (26, [(0, .inr (.inr 18)), (1, .inl k), (2, .inl u), (3, .inl v)], [], g)) rfl trivial ⟨⟨by omega, by omega⟩, ⟨by omega, by omega⟩⟩ (fun c_23_2 => ?_) (fun c_23_2 => ?_)
    · exact (by exfalso; omega)
    · refine pg_ca 5 (L := []) (Mc := pm_S_contains) (as := [.inr (.inr 10), .inl k, .inl u, .inl v]) (h0 := g) (pc := 36) (lv := [(0, .inr (.inr 18)), (1, .inl k), (2, .inl u), (3, .inl v)]) (rest := []) rfl trivial (cs_contains hBg hRg k u v ⟨by omega, by omega⟩ ⟨by omega, by omega⟩ ⟨by omega, by omega⟩) ?_
      intro r_1 h_1 e_1; rw [pg_b_iff (eP _ _ _)] at e_1; rw [e_1.1, e_1.2]
      refine pg_br 0 (L := []) (P := pg_inR (pg_b (sy_P h k u v))) (c := (pg_b (sy_P h k u v)) = 0) (st1 := (66, [(0, .inr (.inr 18)), (1, .inl k), (2, .inl u), (3, .inl v)], [], g)) (st2 := (39, [(0, .inr (.inr 18)), (1, .inl k), (2, .inl u), (3, .inl v)], [], g)) rfl trivial ⟨by omega, by omega⟩ (fun c_36_3 => ?_) (fun c_36_3 => ?_)
      · refine pg_go 2 (L := []) (st' := (15, [(0, .inr (.inr 18)), (1, .inl k), (2, .inl u), (3, .inl (v + 1))], [], g)) rfl trivial ?_
        refine ih g _ (by omega) (by omega) hf h18 ?_ hK
        have hno : ¬ sy_Pc h n ((k * n + u) * n + v).toNat := fun hz => by
          have hz := hat.mp hz
          rcases hbo with hq | hq
          · omega
          · exact hq.1 hz
        unfold hv_G hv_L
        rw [ek, hv_run_f hno]
        exact hH
      · refine pg_ca 5 (L := []) (Mc := pm_M_code) (as := [.inr (.inr 4), .inl k, .inl u, .inl v]) (h0 := g) (pc := 49) (lv := [(0, .inr (.inr 18)), (1, .inl k), (2, .inl u), (3, .inl v)]) (rest := []) rfl trivial (cm_code hBg k u v ⟨by omega, by omega⟩ ⟨by omega, by omega⟩) ?_
        intro r_1 h_1 e_1; rw [e_1.1, e_1.2]
        refine pg_ca 6 (L := []) (Mc := pm_M_product) (as := [.inr (.inr 4), .inl (mt_cd n k u v), .inl (mt_cd n k u v)]) (h0 := g) (pc := 63) (lv := [(0, .inr (.inr 18)), (1, .inl k), (2, .inl u), (3, .inl v), (4, .inl (mt_cd n k u v))]) (rest := [.inr (.inr 18)]) rfl trivial (cm_product hBg (mt_cd n k u v) (mt_cd n k u v) (by rw [hcd]; exact hcl) (by rw [hcd]; exact hcl)) ?_
        intro r_1 h_1 e_1; rw [e_1.1, e_1.2]
        refine pg_ca 0 (L := []) (Mc := pm_H_take) (as := [.inr (.inr 18), .inl (mt_pr s n (mt_cd n k u v) (mt_cd n k u v))]) (h0 := g) (pc := 66) (lv := [(0, .inr (.inr 18)), (1, .inl k), (2, .inl u), (3, .inl v), (4, .inl (mt_cd n k u v))]) (rest := []) rfl trivial (hv_tk hBg hH (sq := (mt_pr s n (mt_cd n k u v) (mt_cd n k u v))) (by rw [hcd]; exact mt_pr_bd hs ⟨hn1, hn2⟩ hcl hcl)) ?_
        intro r_1 g2 e_1; obtain ⟨er_, ef_, e18_, eH_⟩ := e_1; rw [er_]; rw [hcd] at eH_; have hf2 := pg_fr_tr hf ef_ (by decide)
        refine pg_go 2 (L := []) (st' := (15, [(0, .inr (.inr 18)), (1, .inl k), (2, .inl u), (3, .inl (v + 1)), (4, .inl (mt_cd n k u v))], [], g2)) rfl trivial ?_
        refine pg_pick [0, 1, 2, 3] rfl ?_
        refine ih g2 _ (by omega) (by omega) hf2 (fun j hj => by rw [e18_ j hj]; exact h18 j hj) ?_ hK
        have hyes : sy_Pc h n ((k * n + u) * n + v).toNat := hat.mpr (by
          rcases hbo with hq | hq
          · exact hq.1
          · omega)
        unfold hv_G hv_L
        rw [ek, hv_run_t hyes, show ((((k * n + u) * n + v).toNat : Nat) : Int) = (k * n + u) * n + v by omega]
        exact eH_
theorem hv_sq_u {h : pg_H} {s n : Int} (hB : cm_B h s n) (hR : sy_R h s) {k : Int} (hk : 0 ≤ k ∧ k < 2 * mt_rd s) : ∀ (d : Nat) (g : pg_H) (u : Int) (hd : u + (d : Int) = n) (hu : 0 ≤ u) (hf : pg_fr [1, 2, 3, 18, 19] h g) (h18 : ∀ j, j ≠ 4 → g 18 j = h 18 j) (hH : hv_H g s n (hv_G h s n ((k * n + u) * n).toNat) (hv_L h s n ((k * n + u) * n).toNat)), pg_Good true pm_H_takeSquaresOf (fun r h' => r = none ∧ pg_fr [1, 2, 3, 18, 19] h h' ∧ (∀ j, j ≠ 4 → h' 18 j = h 18 j) ∧ hv_H h' s n (hv_G h s n ((k + 1) * n * n).toNat) (hv_L h s n ((k + 1) * n * n).toNat)) (2, [(0, .inr (.inr 18)), (1, .inl k), (2, .inl u)], [], g) := by
  intro d
  induction d with
  | zero =>
    intro g u hd hu hf h18 hH
    obtain ⟨hs, ⟨hn1, hn2⟩, e1, e2, e3, e5⟩ := id hB
    have hr := mt_rd_or hs
    obtain ⟨ra, rb, rc, rl, rk⟩ := id hR
    have g42 : g 4 2 = n := by rw [hf 4 (by decide)]; exact e2
    have hBg := cm_B_fr hB hf (by decide) (by decide)
    have hRg := sy_R_fr hf (by decide) (by decide) (by decide) hR
    have eP := fun k u v => sy_P_fr (h := h) (g := g) (fun j _ _ => by rw [hf 10 (by decide)]) (hf 11 (by decide)) (hf 12 (by decide)) k u v
    refine pg_br 4 (L := []) (P := pg_inR u ∧ pg_inR (g 4 2)) (c := (g 4 2) ≤ u) (st1 := (78, [(0, .inr (.inr 18)), (1, .inl k), (2, .inl u)], [], g)) (st2 := (13, [(0, .inr (.inr 18)), (1, .inl k), (2, .inl u)], [], g)) rfl trivial ⟨⟨by omega, by omega⟩, ⟨by omega, by omega⟩⟩ (fun c_10_1 => ?_) (fun c_10_1 => ?_)
    · refine pg_re 0 (L := []) (r := none) (h0 := g) rfl trivial ?_
      refine ⟨rfl, hf, h18, ?_⟩
      rw [show (k + 1) * n * n = (k * n + u) * n by rw [Int.add_mul, Int.one_mul, show u = n by omega]]
      exact hH
    · exact (by exfalso; omega)
  | succ d ih =>
    intro g u hd hu hf h18 hH
    obtain ⟨hs, ⟨hn1, hn2⟩, e1, e2, e3, e5⟩ := id hB
    have hr := mt_rd_or hs
    obtain ⟨ra, rb, rc, rl, rk⟩ := id hR
    have g42 : g 4 2 = n := by rw [hf 4 (by decide)]; exact e2
    have hBg := cm_B_fr hB hf (by decide) (by decide)
    have hRg := sy_R_fr hf (by decide) (by decide) (by decide) hR
    have eP := fun k u v => sy_P_fr (h := h) (g := g) (fun j _ _ => by rw [hf 10 (by decide)]) (hf 11 (by decide)) (hf 12 (by decide)) k u v
    refine pg_br 4 (L := []) (P := pg_inR u ∧ pg_inR (g 4 2)) (c := (g 4 2) ≤ u) (st1 := (78, [(0, .inr (.inr 18)), (1, .inl k), (2, .inl u)], [], g)) (st2 := (13, [(0, .inr (.inr 18)), (1, .inl k), (2, .inl u)], [], g)) rfl trivial ⟨⟨by omega, by omega⟩, ⟨by omega, by omega⟩⟩ (fun c_10_2 => ?_) (fun c_10_2 => ?_)
    · exact (by exfalso; omega)
    · refine pg_go 2 (L := []) (st' := (15, [(0, .inr (.inr 18)), (1, .inl k), (2, .inl u), (3, .inl 0)], [], g)) rfl trivial ?_
      refine hv_sq_v hB hR hk (u := u) ⟨by omega, by omega⟩ n.toNat g 0 (by omega) (by omega) hf h18 (by rw [Int.add_zero]; exact hH) (fun g2 hf2 h182 hH2 => ?_)
      refine pg_go 2 (L := []) (st' := (2, [(0, .inr (.inr 18)), (1, .inl k), (2, .inl (u + 1))], [], g2)) rfl trivial ?_
      refine ih g2 _ (by omega) (by omega) hf2 h182 ?_
      rw [show (k * n + (u + 1)) * n = (k * n + u) * n + n by rw [← Int.add_assoc, Int.add_mul (k * n + u), Int.one_mul]]
      exact hH2
theorem hv_sq {h : pg_H} {s n : Int} (hB : cm_B h s n) (hR : sy_R h s) {k : Int} (hk : 0 ≤ k ∧ k < 2 * mt_rd s) (hH : hv_H h s n (hv_G h s n (k * n * n).toNat) (hv_L h s n (k * n * n).toNat)) : pg_Sem true pm_H_takeSquaresOf [.inr (.inr 18), .inl k] h (fun r h' => r = none ∧ pg_fr [1, 2, 3, 18, 19] h h' ∧ (∀ j, j ≠ 4 → h' 18 j = h 18 j) ∧ hv_H h' s n (hv_G h s n ((k + 1) * n * n).toNat) (hv_L h s n ((k + 1) * n * n).toNat)) := by
  obtain ⟨hs, ⟨hn1, hn2⟩, e1, e2, e3, e5⟩ := id hB
  have hr := mt_rd_or hs
  obtain ⟨ra, rb, rc, rl, rk⟩ := id hR
  refine pg_Sem_of pm_H_takeSquaresOf_f rfl ?_
  refine pg_go 2 (L := []) (st' := (2, [(0, .inr (.inr 18)), (1, .inl k), (2, .inl 0)], [], h)) rfl trivial ?_
  exact hv_sq_u hB hR hk n.toNat h 0 (by omega) (by omega) (pg_fr_rf _ _) (fun _ _ => rfl) (by rw [Int.add_zero]; exact hH)
theorem hv_run_fr {h g : pg_H} (h10 : ∀ j, j ≠ 8 → j ≠ 9 → g 10 j = h 10 j) (h11 : g 11 = h 11) (h12 : g 12 = h 12) (s n : Int) (m : Nat) : hv_G g s n m = hv_G h s n m ∧ hv_L g s n m = hv_L h s n m := by
  unfold hv_G hv_L
  rw [sy_Pc_fr h10 h11 h12]
  exact ⟨rfl, rfl⟩
/-- the answer that Halves keeps -/
def hv_D (h : pg_H) (s n : Int) : Prop := h 18 5 = h 10 7 * sy_sh h n / (hv_L h s n (2 * mt_rd s * n * n).toNat).length - 1 ∧ 0 < (hv_L h s n (2 * mt_rd s * n * n).toNat).length
def hv_I (h : pg_H) (s n : Int) : Prop := h 18 6 = 0 ∨ (h 18 6 = 1 ∧ h 10 9 = 1 ∧ hv_D h s n)
theorem hv_take_ne {pr : Int → Int → Int} {GL : List Int × List Int} {sq : Int} (h : 0 < GL.2.length) : 0 < (hv_take pr GL sq).2.length := by
  have hbf : ∀ (S : Int → List Int) (F j : Nat) (L : List Int), L.length ≤ (bf S F j L).length := by
    intro S F
    induction F with
    | zero => intro j L; exact Nat.le_refl _
    | succ F ih =>
      intro j L
      simp only [bf]
      split
      · exact Nat.le_trans (bf_ads_len _ _) (ih _ _)
      · exact Nat.le_refl _
  unfold hv_take
  split
  · exact h
  · exact Nat.lt_of_lt_of_le h (hbf _ _ _ _)
theorem hv_run_ne (pr : Int → Int → Int) (P : Nat → Prop) (m : Nat) : 0 < (hv_run pr P m).2.length := by
  induction m with
  | zero => exact Nat.zero_lt_one
  | succ m ih =>
    rcases Classical.em (P m) with h | h
    · rw [hv_run_t h]; exact hv_take_ne ih
    · rw [hv_run_f h]; exact ih
set_option maxHeartbeats 4000000 in
theorem hv_to_l {h : pg_H} {s n : Int} (hB : cm_B h s n) (hR : sy_R h s) : ∀ (d : Nat) (g : pg_H) (k : Int) (hd : k + (d : Int) = 2 * mt_rd s) (hk : 0 ≤ k) (hf : pg_fr [1, 2, 3, 18, 19] h g) (hH : hv_H g s n (hv_G h s n (k * n * n).toNat) (hv_L h s n (k * n * n).toNat)), pg_Good true pm_H_total (fun r h' => ∃ z : Int, r = some (.inl z) ∧ pg_fr [1, 2, 3, 18, 19] h h' ∧ rc_I h' ∧ hv_D h' s n ∧ h' 18 6 = 1 ∧ z = h' 18 5) (42, [(0, .inr (.inr 18)), (1, .inl k)], [], g) := by
  intro d
  induction d with
  | zero =>
    intro g k hd hk hf hH
    obtain ⟨hs, ⟨hn1, hn2⟩, e1, e2, e3, e5⟩ := id hB
    have hr := mt_rd_or hs
    obtain ⟨ra, rb, rc, rl, rk⟩ := id hR
    have hBg := cm_B_fr hB hf (by decide) (by decide)
    have hRg := sy_R_fr hf (by decide) (by decide) (by decide) hR
    have eG := hv_run_fr (h := h) (g := g) (fun j _ _ => by rw [hf 10 (by decide)]) (hf 11 (by decide)) (hf 12 (by decide)) s n
    have hsh := sy_sh_bd hRg ⟨hn1, hn2⟩
    have hl7 := hRg.2.2.2.1
    have htot : 0 ≤ g 10 7 * sy_sh g n ∧ g 10 7 * sy_sh g n ≤ 1728 := ⟨Int.mul_nonneg hl7.1 hsh.1, by have := Int.mul_le_mul hl7.2 hsh.2 hsh.1 (show (0 : Int) ≤ 12 by decide); omega⟩
    have hle := rc_I_le hH.1.1
    have hln := hH.1.2.1
    have hne := hv_run_ne (mt_pr s n) (sy_Pc h n) (k * n * n).toNat
    have hne2 : 0 < (hv_L h s n (k * n * n).toNat).length := hne
    have hmx : (if (1 : Int) < g 1 2 then g 1 2 else 1) = g 1 2 := by split <;> omega
    have hmx1 : 1 ≤ (if (1 : Int) < g 1 2 then g 1 2 else 1) ∧ (if (1 : Int) < g 1 2 then g 1 2 else 1) ≤ 5184 := by rw [hmx]; omega
    refine pg_ca 3 (L := []) (Mc := pm_M_linears) (as := [.inr (.inr 4)]) (h0 := g) (pc := 50) (lv := [(0, .inr (.inr 18)), (1, .inl k)]) (rest := [.inl k]) rfl trivial (cm_linears hBg) ?_
    intro r_1 h_1 e_1; rw [e_1.1, e_1.2]
    refine pg_br 0 (L := []) (P := pg_inR k ∧ pg_inR (2 * mt_rd s)) (c := (2 * mt_rd s) ≤ k) (st1 := (64, [(0, .inr (.inr 18)), (1, .inl k)], [], g)) (st2 := (53, [(0, .inr (.inr 18)), (1, .inl k)], [], g)) rfl trivial ⟨⟨by omega, by omega⟩, ⟨by omega, by omega⟩⟩ (fun c_50_1 => ?_) (fun c_50_1 => ?_)
    · refine pg_ca 3 (L := []) (Mc := pm_S_total) (as := [.inr (.inr 10)]) (h0 := g) (pc := 72) (lv := [(0, .inr (.inr 18)), (1, .inl k)]) (rest := [.inr (.inr 18)]) rfl trivial (cs_total hBg hRg) ?_
      intro r_1 h_1 e_1; rw [e_1.1, e_1.2]
      refine pg_ca 4 (L := []) (Mc := pm_J_max) (as := [.inl 1, .inl (g 1 2)]) (h0 := g) (pc := 83) (lv := [(0, .inr (.inr 18)), (1, .inl k)]) (rest := [.inl (g 10 7 * sy_sh g n), .inr (.inr 18)]) rfl trivial (cj_max g 1 (g 1 2) ⟨by omega, by omega⟩ ⟨by omega, by omega⟩) ?_
      intro r_1 h_1 e_1; rw [e_1.1, e_1.2]
      refine pg_re 9 (L := [(if 1 < (g 1 2) then (g 1 2) else 1) ≠ 0 ∧ pg_inR (g 10 7 * sy_sh g n) ∧ pg_inR (if 1 < (g 1 2) then (g 1 2) else 1), 1 = 0 ∨ 1 = 1]) (r := some (.inl ((Int.tdiv (g 10 7 * sy_sh g n) (if 1 < (g 1 2) then (g 1 2) else 1)) - 1))) (h0 := pg_up (pg_up g 18 5 ((Int.tdiv (g 10 7 * sy_sh g n) (if 1 < (g 1 2) then (g 1 2) else 1)) - 1)) 18 6 1) rfl ⟨⟨by omega, ⟨by omega, by omega⟩, ⟨by omega, by omega⟩⟩, Or.inr rfl⟩ ?_
      have eL : hv_L (pg_up (pg_up g 18 5 (Int.tdiv (g 10 7 * sy_sh g n) (if 1 < g 1 2 then g 1 2 else 1) - 1)) 18 6 1) s n (2 * mt_rd s * n * n).toNat = hv_L h s n (k * n * n).toNat := by rw [show 2 * mt_rd s = k by omega]; exact (eG _).2
      refine ⟨_, rfl, pg_fr_up (pg_fr_up hf (by decide) _ _) (by decide) _ _, hH.1.1, ⟨?_, ?_⟩, rfl, rfl⟩
      · rw [eL]
        show Int.tdiv (g 10 7 * sy_sh g n) (if 1 < g 1 2 then g 1 2 else 1) - 1 = g 10 7 * sy_sh g n / _ - 1
        rw [hmx, pg_tdiv_nn htot.1, hln]
      · rw [eL]; exact hne2
    · exact (by exfalso; omega)
  | succ d ih =>
    intro g k hd hk hf hH
    obtain ⟨hs, ⟨hn1, hn2⟩, e1, e2, e3, e5⟩ := id hB
    have hr := mt_rd_or hs
    obtain ⟨ra, rb, rc, rl, rk⟩ := id hR
    have hBg := cm_B_fr hB hf (by decide) (by decide)
    have hRg := sy_R_fr hf (by decide) (by decide) (by decide) hR
    have eG := hv_run_fr (h := h) (g := g) (fun j _ _ => by rw [hf 10 (by decide)]) (hf 11 (by decide)) (hf 12 (by decide)) s n
    have hsh := sy_sh_bd hRg ⟨hn1, hn2⟩
    have hl7 := hRg.2.2.2.1
    have htot : 0 ≤ g 10 7 * sy_sh g n ∧ g 10 7 * sy_sh g n ≤ 1728 := ⟨Int.mul_nonneg hl7.1 hsh.1, by have := Int.mul_le_mul hl7.2 hsh.2 hsh.1 (show (0 : Int) ≤ 12 by decide); omega⟩
    have hle := rc_I_le hH.1.1
    have hln := hH.1.2.1
    have hne := hv_run_ne (mt_pr s n) (sy_Pc h n) (k * n * n).toNat
    refine pg_ca 3 (L := []) (Mc := pm_M_linears) (as := [.inr (.inr 4)]) (h0 := g) (pc := 50) (lv := [(0, .inr (.inr 18)), (1, .inl k)]) (rest := [.inl k]) rfl trivial (cm_linears hBg) ?_
    intro r_1 h_1 e_1; rw [e_1.1, e_1.2]
    refine pg_br 0 (L := []) (P := pg_inR k ∧ pg_inR (2 * mt_rd s)) (c := (2 * mt_rd s) ≤ k) (st1 := (64, [(0, .inr (.inr 18)), (1, .inl k)], [], g)) (st2 := (53, [(0, .inr (.inr 18)), (1, .inl k)], [], g)) rfl trivial ⟨⟨by omega, by omega⟩, ⟨by omega, by omega⟩⟩ (fun c_50_2 => ?_) (fun c_50_2 => ?_)
    · exact (by exfalso; omega)
    · refine pg_ca 2 (L := []) (Mc := pm_H_takeSquaresOf) (as := [.inr (.inr 18), .inl k]) (h0 := g) (pc := 58) (lv := [(0, .inr (.inr 18)), (1, .inl k)]) (rest := []) rfl trivial (hv_sq hBg hRg (k := k) ⟨by omega, by omega⟩ (by rw [(eG _).1, (eG _).2]; exact hH)) ?_
      intro r_1 g2 e_1; obtain ⟨er_, ef_, e18_, eH_⟩ := e_1; rw [er_]; rw [(eG _).1, (eG _).2] at eH_; have hf2 := pg_fr_tr hf ef_ (by decide)
      refine pg_go 2 (L := []) (st' := (42, [(0, .inr (.inr 18)), (1, .inl (k + 1))], [], g2)) rfl trivial ?_
      exact ih g2 _ (by omega) (by omega) hf2 eH_
theorem hv_to {h : pg_H} {s n : Int} (hQ : cq_I h s n) (hI : rc_I h) (hV : hv_I h s n) : pg_Sem true pm_H_total [.inr (.inr 18)] h (fun r h' => ∃ z : Int, r = some (.inl z) ∧ pg_fr [1, 2, 3, 10, 11, 12, 18, 19] h h' ∧ cq_J h' s n ∧ rc_I h' ∧ hv_D h' s n ∧ h' 18 6 = 1 ∧ z = h' 18 5 ∧ sy_eq h h') := by
  have hv0 : h 18 6 = 0 ∨ h 18 6 = 1 := by unfold hv_I at hV; omega
  refine pg_Sem_of pm_H_total_f rfl ?_
  refine pg_br 2 (L := []) (P := pg_inR (h 18 6)) (c := (h 18 6) = 0) (st1 := (12, [(0, .inr (.inr 18))], [], h)) (st2 := (7, [(0, .inr (.inr 18))], [], h)) rfl trivial ⟨by omega, by omega⟩ (fun c_4_1 => ?_) (fun c_4_1 => ?_)
  · refine pg_ca 2 (L := []) (Mc := pm_S_study) (as := [.inr (.inr 10)]) (h0 := h) (pc := 19) (lv := [(0, .inr (.inr 18))]) (rest := []) rfl trivial (cq_study hQ) ?_
    intro r_1 g e_1; obtain ⟨er_, ef_, hJ, hse⟩ := e_1; rw [er_]; obtain ⟨hQg, hk_, hD_⟩ := id hJ; obtain ⟨hBg, hCg, hSg, -, -⟩ := id hQg; obtain ⟨hs, ⟨hn1, hn2⟩, -⟩ := id hBg; have hR := sy_R_of hs hn2 hD_; have hr := mt_rd_or hs; have hIg : rc_I g := by unfold rc_I; rw [ef_ 1 (by decide), ef_ 2 (by decide), ef_ 3 (by decide)]; exact hI
    refine pg_ca 2 (L := []) (Mc := pm_R_clear) (as := [.inr (.inr 1)]) (h0 := g) (pc := 26) (lv := [(0, .inr (.inr 18))]) (rest := []) rfl trivial (rl_clear hIg) ?_
    intro r_1 g1 e_1; obtain ⟨er_, eL1_, ef1_⟩ := e_1; rw [er_]
    refine pg_ca 3 (L := []) (Mc := pm_R_add) (as := [.inr (.inr 1), .inl 0]) (h0 := g1) (pc := 34) (lv := [(0, .inr (.inr 18))]) (rest := []) rfl trivial (rl_add eL1_ 0 (by decide)) ?_
    intro r_1 g2 e_1; obtain ⟨er_, eL2_, ef2_⟩ := e_1; rw [er_]
    refine pg_go 6 (L := []) (st' := (42, [(0, .inr (.inr 18)), (1, .inl 0)], [], pg_up g2 18 4 0)) rfl trivial ?_
    have hfa : pg_fr [1, 2, 3, 18, 19] g (pg_up g2 18 4 0) := pg_fr_up (pg_fr_tr (pg_fr_tr (pg_fr_rf _ _) ef1_ (by decide)) ef2_ (by decide)) (by decide) _ _
    refine po_st_mono (hv_to_l (h := g) hBg hR (2 * mt_rd s).toNat _ _ (by omega) (by omega) hfa ?_) ?_
    · rw [show ((0 : Int) * n * n).toNat = 0 by rw [Int.zero_mul, Int.zero_mul]; rfl]
      have h0 := mt_cd_lt (s := s) (k := 0) (u := 0) (v := 0) ⟨hn1, hn2⟩ ⟨by omega, by omega⟩ ⟨by omega, by omega⟩ ⟨by omega, by omega⟩
      simp only [Int.zero_mul, Int.add_zero] at h0
      show hv_H (pg_up g2 18 4 0) s n [] [0]
      refine ⟨rc_L_fr (pg_fr_up (pg_fr_rf [18] g2) (by decide) _ _) (by decide) (by decide) (by decide) eL2_, rfl, by decide, fun j x hj => by simp at hj, fun x hx => by simp at hx, fun x hx => ?_⟩
      have hx : x ∈ ([0] : List Int) := hx
      rw [List.mem_singleton.mp hx]; exact h0
    · rintro r h' ⟨z, e1, e2, e3, e4, e5, e6⟩
      exact ⟨z, e1, pg_fr_tr (pg_fr_tr (pg_fr_rf _ _) ef_ (by decide)) e2 (by decide), cq_J_fr e2 (by decide) (by decide) (by decide) (by decide) (by decide) (by decide) (by decide) hJ, e3, e4, e5, e6, sy_eq_fr hse e2 (by decide) (by decide) (by decide)⟩
  · refine pg_re 2 (L := []) (r := some (.inl (h 18 5))) (h0 := h) rfl trivial ?_
    rcases hV with hq | ⟨hq1, hq2, hq3⟩
    · omega
    · have hD : sy_D h s n := by
        rcases hQ.2.2.2.1 with hw | hw
        · omega
        · exact hw.2
      exact ⟨_, rfl, pg_fr_rf _ _, ⟨hQ, hq2, hD⟩, hI, hq3, hq1, rfl, sy_eq_rf _⟩
