/-! the reference: spread -/
/-- where generator j takes point i -/
def ri_gm (g : pg_H) (s n j i : Int) : Int := mt_tg s n (g 2 (3 * j).toNat) (g 2 (3 * j + 1).toNat) (g 2 (3 * j + 2).toNat) (i % n) (i / n)
/-- lp: for each point one not larger that moves can bring it to -/
def ri_lp (g : pg_H) (s n : Int) (lp : Nat → Int) : Prop := (∀ i : Nat, (i : Int) < n * n → 0 ≤ lp i ∧ lp i ≤ i) ∧ ∀ f : Nat → Nat, (∀ j i : Int, 0 ≤ j → j < g 0 3 → 0 ≤ i → i < n * n → f (ri_gm g s n j i).toNat = f i.toNat) → ∀ i : Nat, (i : Int) < n * n → f (lp i).toNat = f i
theorem ri_gm_bd {g : pg_H} {s n j i : Int} (hn : 1 ≤ n ∧ n ≤ 12) : 0 ≤ ri_gm g s n j i ∧ ri_gm g s n j i < n * n ∧ ri_gm g s n j i < 144 := mt_tg_bd hn.1 hn.2
theorem pg_sm_up (f : Nat → Int) (i : Nat) (v : Int) (m : Nat) : pg_sm (fun k => if k = i then v else f k) m = pg_sm f m + (if i < m then v - f i else 0) := by
  induction m with
  | zero => simp [pg_sm]
  | succ m ih =>
    simp only [pg_sm]
    rw [ih]
    by_cases h : m = i
    · subst h
      rw [if_neg (by omega), if_pos rfl, if_pos (by omega)]
      omega
    · rw [if_neg h]
      by_cases h2 : i < m
      · rw [if_pos h2, if_pos (by omega)]; omega
      · rw [if_neg h2, if_neg (by omega)]; omega
/-- within one pass -/
def ri_PI (g0 : pg_H) (s n : Int) (lp lp0 : Nat → Int) (e j i : Int) : Prop := ri_lp g0 s n lp ∧ ((e = 0 ∧ (∀ k : Nat, (k : Int) < n * n → lp k = lp0 k) ∧ ∀ j' i' : Int, 0 ≤ j' → 0 ≤ i' → i' < n * n → (j' < j ∨ (j' = j ∧ i' < i)) → lp (ri_gm g0 s n j' i').toNat = lp i'.toNat) ∨ (e = 1 ∧ pg_sm lp (n * n).toNat < pg_sm lp0 (n * n).toNat))
theorem pg_sm_eq {f g : Nat → Int} {m : Nat} (h : ∀ k, k < m → f k = g k) : pg_sm f m = pg_sm g m := by
  induction m with
  | zero => rfl
  | succ m ih => simp only [pg_sm]; rw [ih (fun k hk => h k (by omega)), h m (by omega)]
theorem ri_PI_s {g0 : pg_H} {s n : Int} (hn : 1 ≤ n ∧ n ≤ 12) {lp lp0 : Nat → Int} {e j i : Int} (hj : 0 ≤ j ∧ j < g0 0 3) (hi : 0 ≤ i ∧ i < n * n) (hP : ri_PI g0 s n lp lp0 e j i) {low e' : Int} (hl1 : low = lp i.toNat ∨ low = lp (ri_gm g0 s n j i).toNat) (hl2 : low ≤ lp i.toNat ∧ low ≤ lp (ri_gm g0 s n j i).toNat) (he : (e' = 0 ∧ e = 0 ∧ lp i.toNat = low ∧ lp (ri_gm g0 s n j i).toNat = low) ∨ (e' = 1 ∧ (e = 1 ∨ lp i.toNat ≠ low ∨ lp (ri_gm g0 s n j i).toNat ≠ low))) : ri_PI g0 s n (fun k => if k = (ri_gm g0 s n j i).toNat then low else if k = i.toNat then low else lp k) lp0 e' j (i + 1) := by
  have hb := ri_gm_bd (g := g0) (s := s) (j := j) (i := i) hn
  generalize hp : ri_gm g0 s n j i = p at *
  have hbp := hP.1.1 p.toNat (by omega)
  have hbi := hP.1.1 i.toNat (by omega)
  refine ⟨⟨fun k hk => ?_, fun f hf k hk => ?_⟩, ?_⟩
  · simp only
    have hbk := hP.1.1 k hk
    split
    · next h => omega
    · split
      · next h => omega
      · exact hbk
  · have h1 := hP.1.2 f hf
    have h2 : f p.toNat = f i.toNat := by rw [← hp]; exact hf j i hj.1 hj.2 hi.1 hi.2
    have h3 : f low.toNat = f i.toNat := by
      rcases hl1 with h | h
      · rw [h]; exact h1 i.toNat (by omega)
      · rw [h, h1 p.toNat (by omega), h2]
    show f (if k = p.toNat then low else if k = i.toNat then low else lp k).toNat = f k
    split
    · next h => rw [h, h3, h2]
    · split
      · next h => rw [h, h3]
      · exact h1 k hk
  · have hs1 := pg_sm_up lp i.toNat low (n * n).toNat
    have hs2 := pg_sm_up (fun k => if k = i.toNat then low else lp k) p.toNat low (n * n).toNat
    rw [if_pos (by omega)] at hs1 hs2
    rw [hs1] at hs2
    rcases he with ⟨a1, a2, a3, a4⟩ | ⟨a1, a2⟩
    · have hsame : ∀ k, (if k = p.toNat then low else if k = i.toNat then low else lp k) = lp k := by
        intro k
        split
        · next h => rw [h, a4]
        · split
          · next h => rw [h, a3]
          · rfl
      simp only [hsame]
      refine Or.inl ⟨a1, ?_⟩
      rcases hP.2 with ⟨b1, b2, b3⟩ | ⟨b1, b2⟩
      · refine ⟨b2, fun j' i' k1 k2 k3 k4 => ?_⟩
        rcases (show (j' < j ∨ (j' = j ∧ i' < i)) ∨ (j' = j ∧ i' = i) by omega) with h | ⟨rfl, rfl⟩
        · exact b3 j' i' k1 k2 k3 h
        · rw [hp, a4, a3]
      · omega
    · refine Or.inr ⟨a1, ?_⟩
      show pg_sm (fun k => if k = p.toNat then low else if k = i.toNat then low else lp k) (n * n).toNat < _
      rw [hs2]
      have hle : (if p.toNat = i.toNat then low else lp p.toNat) = low ∧ p.toNat = i.toNat ∨ (if p.toNat = i.toNat then low else lp p.toNat) = lp p.toNat := by
        split
        · next h => exact Or.inl ⟨rfl, h⟩
        · exact Or.inr rfl
      generalize (if p.toNat = i.toNat then low else lp p.toNat) = q at *
      have hpi : p.toNat = i.toNat → lp p.toNat = lp i.toNat := fun h => by rw [h]
      rcases hP.2 with ⟨b1, b2, b3⟩ | ⟨b1, b2⟩
      · have hq := pg_sm_eq (f := lp) (g := lp0) (m := (n * n).toNat) (fun k hk => b2 k (by omega))
        rw [← hq]
        rcases hle with ⟨q1, q2⟩ | q1
        · have := hpi q2; omega
        · omega
      · rcases hle with ⟨q1, q2⟩ | q1
        · omega
        · omega
theorem ri_PI_n {g0 : pg_H} {s n : Int} {lp lp0 : Nat → Int} {e j : Int} (hP : ri_PI g0 s n lp lp0 e j (n * n)) : ri_PI g0 s n lp lp0 e (j + 1) 0 := by
  refine ⟨hP.1, ?_⟩
  rcases hP.2 with ⟨b1, b2, b3⟩ | h
  · exact Or.inl ⟨b1, b2, fun j' i' k1 k2 k3 k4 => b3 j' i' k1 k2 k3 (by omega)⟩
  · exact Or.inr h
def ri_lf (g : pg_H) (s n : Int) (lp : Nat → Int) : Prop := ∀ j i : Int, 0 ≤ j → j < g 0 3 → 0 ≤ i → i < n * n → lp (ri_gm g s n j i).toNat = lp i.toNat
set_option maxRecDepth 20000 in
set_option maxHeartbeats 4000000 in
theorem re_sp_c {g0 : pg_H} {s n : Int} (hB0 : rm_B g0 s n) (hC0 : ri_C g0) (hG0 : ri_G g0 s n) {gL : pg_H} (hfL : rf [19] [15, 16] g0 gL) (hlp : ri_lp g0 s n (gL 19)) (hlf : ri_lf g0 s n (gL 19)) {e : Int} : ∀ (d : Nat) (g : pg_H) (f i : Int) (hd : i + 1 = (d : Int)) (hi : -1 ≤ i) (hi2 : i < n * n) (hf1 : rf [1] [] gL g) (hI : ∀ k : Nat, (k : Int) < n * n → g 1 k = if i < (k : Int) then g0 1 (gL 19 k).toNat else g0 1 k) (hI2 : ∀ k : Nat, n * n ≤ (k : Int) → g 1 k = g0 1 k) (hF : f = pg_cn (fun k => g0 1 k ≠ g0 1 (gL 19 k).toNat) (n * n).toNat - pg_cn (fun k => g0 1 k ≠ g0 1 (gL 19 k).toNat) (i + 1).toNat), pg_Good false pm_T_spread (fun r h' => ∃ (g' : pg_H) (lp : Nat → Int), h' = rm g' s n ∧ rf [1, 19] [3, 7, 8, 15, 16] g0 g' ∧ ri_lp g0 s n lp ∧ ri_lf g0 s n lp ∧ (∀ k : Nat, (k : Int) < n * n → g' 1 k = g0 1 (lp k).toNat) ∧ (∀ k : Nat, n * n ≤ (k : Int) → g' 1 k = g0 1 k) ∧ g' 0 3 = 0 ∧ g' 0 7 = 0 ∧ g' 0 8 = 0 ∧ r = some (.inl (pg_cn (fun k => g0 1 k ≠ g0 1 (lp k).toNat) (n * n).toNat))) (220, [(0, .inr (.inr 0)), (1, .inl e), (2, .inl f), (3, .inl i)], [], rm g s n) := by
  intro d
  induction d with
  | zero =>
    intro g f i hd hi hi2 hf1 hI hI2 hF
    have hf := rf_tr (rf_w hfL (cs := [1, 19]) (fs := [15, 16]) (by decide) (by decide)) hf1 (by decide) (by decide)
    have hB := rm_B_fr hB0 hf (by decide)
    obtain ⟨hs, hn, -⟩ := id hB
    obtain ⟨hn1, hn2⟩ := id hn
    have hr := mt_rd_or hs
    have hnn := mt_nn hn1 hn2
    have hg3 := hG0.1
    refine pg_br 1 (L := []) (P := pg_inR i) (c := i < 0) (st1 := (275, [(0, .inr (.inr 0)), (1, .inl e), (2, .inl f), (3, .inl i)], [], rm g s n)) (st2 := (224, [(0, .inr (.inr 0)), (1, .inl e), (2, .inl f), (3, .inl i)], [], rm g s n)) rfl trivial ⟨by omega, by omega⟩ (fun c_221_1 => ?_) (fun c_221_1 => ?_)
    · refine pg_go 4 (L := []) (st' := (281, [(0, .inr (.inr 0)), (1, .inl e), (2, .inl f), (3, .inl i)], [.inr (.inr 0)], pg_up (rm g s n) 0 3 0)) rfl trivial ?_
      rw [rm_up0 (i := 3) (by decide) (by decide)]
      refine pg_ca 0 (L := []) (Mc := pm_T_changed) (as := [.inr (.inr 0)]) (h0 := rm (pg_up g 0 3 0) s n) (pc := 284) (lv := [(0, .inr (.inr 0)), (1, .inl e), (2, .inl f), (3, .inl i)]) (rest := []) rfl trivial (re_changed (g := (pg_up g 0 3 0)) (s := s) (n := n)) ?_
      intro r_1 h_1 e_1; rw [e_1.1, e_1.2]
      refine pg_re 1 (L := []) (r := some (.inl f)) (h0 := rm (pg_up (pg_up (pg_up g 0 3 0) 0 7 0) 0 8 0) s n) rfl trivial ?_
      refine ⟨_, gL 19, rfl, (rf_0 (rf_0 (rf_0 (rf_w hf (cs := [1, 19]) (fs := [3, 7, 8, 15, 16]) (by decide) (by decide)) (by decide) _) (by decide) _) (by decide) _), hlp, hlf, fun k hk => ?_, hI2, rfl, rfl, rfl, ?_⟩
      · have h1 := hI k hk
        rw [if_pos (by omega)] at h1
        exact h1
      · rw [hF, show i + 1 = 0 by omega]
        congr 2
        show _ - (0 : Int) = _
        rw [Int.sub_zero]
    · exact (by exfalso; omega)
  | succ d ih =>
    intro g f i hd hi hi2 hf1 hI hI2 hF
    have hf := rf_tr (rf_w hfL (cs := [1, 19]) (fs := [15, 16]) (by decide) (by decide)) hf1 (by decide) (by decide)
    have hB := rm_B_fr hB0 hf (by decide)
    obtain ⟨hs, hn, -⟩ := id hB
    obtain ⟨hn1, hn2⟩ := id hn
    have hr := mt_rd_or hs
    have hnn := mt_nn hn1 hn2
    have hg3 := hG0.1
    have hbl := hlp.1 i.toNat (by omega)
    have e19 : g 19 = gL 19 := hf1.1 19 (by decide) (by decide)
    have e19i : g 19 i.toNat = gL 19 i.toNat := by rw [e19]
    have hgi : g 1 i.toNat = g0 1 i.toNat := by rw [hI i.toNat (by omega), if_neg (by omega)]
    have hgl : g 1 (g 19 i.toNat).toNat = g0 1 (gL 19 i.toNat).toNat := by rw [e19i, hI (gL 19 i.toNat).toNat (by omega), if_neg (by omega)]
    have c1 := hC0 i.toNat (by omega)
    have c2 := hC0 (gL 19 i.toNat).toNat (by omega)
    have hq1 := pg_cn_bd (fun k => g0 1 k ≠ g0 1 (gL 19 k).toNat) (i + 1).toNat
    have hq2 := pg_cn_bd (fun k => g0 1 k ≠ g0 1 (gL 19 k).toNat) (n * n).toNat
    have hq3 := pg_cn_mono (P := (fun k => g0 1 k ≠ g0 1 (gL 19 k).toNat)) (j := (i + 1).toNat) (m := (n * n).toNat) (by omega)
    refine pg_br 1 (L := []) (P := pg_inR i) (c := i < 0) (st1 := (275, [(0, .inr (.inr 0)), (1, .inl e), (2, .inl f), (3, .inl i)], [], rm g s n)) (st2 := (224, [(0, .inr (.inr 0)), (1, .inl e), (2, .inl f), (3, .inl i)], [], rm g s n)) rfl trivial ⟨by omega, by omega⟩ (fun c_221_2 => ?_) (fun c_221_2 => ?_)
    · exact (by exfalso; omega)
    · refine pg_br 11 (L := [0 ≤ i ∧ i < (144 : Int), 0 ≤ i ∧ i < (144 : Int), 0 ≤ (g 19 i.toNat) ∧ (g 19 i.toNat) < (144 : Int)]) (P := pg_inR (g 1 i.toNat) ∧ pg_inR (g 1 ((g 19 i.toNat).toNat))) (c := (g 1 i.toNat) = (g 1 ((g 19 i.toNat).toNat))) (st1 := (250, [(0, .inr (.inr 0)), (1, .inl e), (2, .inl f), (3, .inl i)], [], rm g s n)) (st2 := (244, [(0, .inr (.inr 0)), (1, .inl e), (2, .inl f), (3, .inl i)], [], rm g s n)) rfl ⟨⟨by omega, by omega⟩, ⟨by omega, by omega⟩, ⟨by omega, by omega⟩⟩ ⟨⟨by omega, by omega⟩, ⟨by omega, by omega⟩⟩ (fun c_241_3 => ?_) (fun c_241_3 => ?_)
      · refine pg_go 15 (L := [0 ≤ i ∧ i < (144 : Int), 0 ≤ (g 19 i.toNat) ∧ (g 19 i.toNat) < (144 : Int), 0 ≤ i ∧ i < (144 : Int)]) (st' := (220, [(0, .inr (.inr 0)), (1, .inl e), (2, .inl f), (3, .inl (i + (-1)))], [], pg_up (rm g s n) 1 i.toNat (g 1 ((g 19 i.toNat).toNat)))) rfl ⟨⟨by omega, by omega⟩, ⟨by omega, by omega⟩, ⟨by omega, by omega⟩⟩ ?_
        rw [rm_upq (q := 1) (by decide)]
        refine ih _ _ _ (by omega) (by omega) (by omega) (rf_q hf1 (by decide) (by decide) _ _) (fun k hk => ?_) (fun k hk => ?_) ?_
        · rw [pg_up_at]
          by_cases hc : k = i.toNat
          · rw [if_pos hc, if_pos (by omega), hc]; exact hgl
          · rw [if_neg hc, hI k hk]
            by_cases h1 : i < (k : Int)
            · rw [if_pos h1, if_pos (by omega)]
            · rw [if_neg h1, if_neg (by omega)]
        · rw [pg_up_at, if_neg (by omega)]; exact hI2 k hk
        · rw [show i + -1 + 1 = i by omega, hF, show (i + 1).toNat = i.toNat + 1 by omega]
          simp only [pg_cn]
          rw [← hgi, ← hgl]
          first | (rw [pg_b_t (by omega)]; omega) | (rw [pg_b_f (by omega)]; omega)
      · refine pg_go 18 (L := [0 ≤ i ∧ i < (144 : Int), 0 ≤ (g 19 i.toNat) ∧ (g 19 i.toNat) < (144 : Int), 0 ≤ i ∧ i < (144 : Int)]) (st' := (220, [(0, .inr (.inr 0)), (1, .inl e), (2, .inl (f + 1)), (3, .inl (i + (-1)))], [], pg_up (rm g s n) 1 i.toNat (g 1 ((g 19 i.toNat).toNat)))) rfl ⟨⟨by omega, by omega⟩, ⟨by omega, by omega⟩, ⟨by omega, by omega⟩⟩ ?_
        rw [rm_upq (q := 1) (by decide)]
        refine ih _ _ _ (by omega) (by omega) (by omega) (rf_q hf1 (by decide) (by decide) _ _) (fun k hk => ?_) (fun k hk => ?_) ?_
        · rw [pg_up_at]
          by_cases hc : k = i.toNat
          · rw [if_pos hc, if_pos (by omega), hc]; exact hgl
          · rw [if_neg hc, hI k hk]
            by_cases h1 : i < (k : Int)
            · rw [if_pos h1, if_pos (by omega)]
            · rw [if_neg h1, if_neg (by omega)]
        · rw [pg_up_at, if_neg (by omega)]; exact hI2 k hk
        · rw [show i + -1 + 1 = i by omega, hF, show (i + 1).toNat = i.toNat + 1 by omega]
          simp only [pg_cn]
          rw [← hgi, ← hgl]
          first | (rw [pg_b_t (by omega)]; omega) | (rw [pg_b_f (by omega)]; omega)
set_option maxRecDepth 20000 in
set_option maxHeartbeats 8000000 in
theorem re_sp_p {g0 : pg_H} {s n : Int} (hB0 : rm_B g0 s n) (hC0 : ri_C g0) (hG0 : ri_G g0 s n) {lp0 : Nat → Int} {j : Int} (hj : 0 ≤ j ∧ j < g0 0 3) (hK : ∀ (g2 : pg_H) (e2 : Int), rf [19] [15, 16] g0 g2 → ri_PI g0 s n (g2 19) lp0 e2 (j + 1) 0 → pg_Good false pm_T_spread (fun r h' => ∃ (g' : pg_H) (lp : Nat → Int), h' = rm g' s n ∧ rf [1, 19] [3, 7, 8, 15, 16] g0 g' ∧ ri_lp g0 s n lp ∧ ri_lf g0 s n lp ∧ (∀ k : Nat, (k : Int) < n * n → g' 1 k = g0 1 (lp k).toNat) ∧ (∀ k : Nat, n * n ≤ (k : Int) → g' 1 k = g0 1 k) ∧ g' 0 3 = 0 ∧ g' 0 7 = 0 ∧ g' 0 8 = 0 ∧ r = some (.inl (pg_cn (fun k => g0 1 k ≠ g0 1 (lp k).toNat) (n * n).toNat))) (38, [(0, .inr (.inr 0)), (1, .inl e2), (2, .inl (j + 1))], [], rm g2 s n)) : ∀ (d : Nat) (g : pg_H) (e i : Int) (hd : i + (d : Int) = n * n) (hi : 0 ≤ i) (hf : rf [19] [15, 16] g0 g) (hP : ri_PI g0 s n (g 19) lp0 e j i), pg_Good false pm_T_spread (fun r h' => ∃ (g' : pg_H) (lp : Nat → Int), h' = rm g' s n ∧ rf [1, 19] [3, 7, 8, 15, 16] g0 g' ∧ ri_lp g0 s n lp ∧ ri_lf g0 s n lp ∧ (∀ k : Nat, (k : Int) < n * n → g' 1 k = g0 1 (lp k).toNat) ∧ (∀ k : Nat, n * n ≤ (k : Int) → g' 1 k = g0 1 k) ∧ g' 0 3 = 0 ∧ g' 0 7 = 0 ∧ g' 0 8 = 0 ∧ r = some (.inl (pg_cn (fun k => g0 1 k ≠ g0 1 (lp k).toNat) (n * n).toNat))) (48, [(0, .inr (.inr 0)), (1, .inl e), (2, .inl j), (3, .inl i)], [], rm g s n) := by
  intro d
  induction d with
  | zero =>
    intro g e i hd hi hf hP
    have hB := rm_B_fr hB0 hf (by decide)
    obtain ⟨hs, hn, -⟩ := id hB
    obtain ⟨hn1, hn2⟩ := id hn
    have hr := mt_rd_or hs
    have hnn := mt_nn hn1 hn2
    have hg3 := hG0.1
    refine pg_br 6 (L := []) (P := pg_inR i ∧ pg_inR (n * n)) (c := (n * n) ≤ i) (st1 := (197, [(0, .inr (.inr 0)), (1, .inl e), (2, .inl j), (3, .inl i)], [], rm g s n)) (st2 := (61, [(0, .inr (.inr 0)), (1, .inl e), (2, .inl j), (3, .inl i)], [], rm g s n)) rfl trivial ⟨⟨by omega, by omega⟩, ⟨by omega, by omega⟩⟩ (fun c_58_1 => ?_) (fun c_58_1 => ?_)
    · refine pg_go 2 (L := []) (st' := (38, [(0, .inr (.inr 0)), (1, .inl e), (2, .inl (j + 1)), (3, .inl i)], [], rm g s n)) rfl trivial ?_
      refine pg_pick [0, 1, 2] rfl ?_
      rw [show i = n * n by omega] at hP
      exact hK _ _ hf (ri_PI_n hP)
    · exact (by exfalso; omega)
  | succ d ih =>
    intro g e i hd hi hf hP
    have hB := rm_B_fr hB0 hf (by decide)
    obtain ⟨hs, hn, -⟩ := id hB
    obtain ⟨hn1, hn2⟩ := id hn
    have hr := mt_rd_or hs
    have hnn := mt_nn hn1 hn2
    have hg3 := hG0.1
    have e01 : e = 0 ∨ e = 1 := by rcases hP.2 with h | h; (· exact Or.inl h.1); (· exact Or.inr h.1)
    have e2 : g 2 = g0 2 := hf.1 2 (by decide) (by decide)
    have hgj := hG0.2 j.toNat (by omega)
    rw [show 3 * j.toNat = (3 * j).toNat by omega, show (3 * j).toNat + 1 = (3 * j + 1).toNat by omega, show (3 * j).toNat + 2 = (3 * j + 2).toNat by omega, ← e2] at hgj
    have et := pg_tmod_nn (y := n) hi
    have ed := pg_tdiv_nn (y := n) hi
    have q1 := mt_mod hn1 i
    have q2 := mt_row_bd hn1 (show 0 ≤ i ∧ i < n * n by omega)
    have epm : (mt_tg s n (g 2 (3 * j).toNat) (g 2 (3 * j + 1).toNat) (g 2 (3 * j + 2).toNat) (Int.tmod i n) (Int.tdiv i n)) = (ri_gm g0 s n j i) := by
      unfold ri_gm
      rw [e2, et, ed]
    have hgb := ri_gm_bd (g := g0) (s := s) (j := j) (i := i) hn
    rw [← epm] at hgb
    have hbi := hP.1.1 i.toNat (by omega)
    have hbp := hP.1.1 (mt_tg s n (g 2 (3 * j).toNat) (g 2 (3 * j + 1).toNat) (g 2 (3 * j + 2).toNat) (Int.tmod i n) (Int.tdiv i n)).toNat (by omega)
    have hbq : g 19 (ri_gm g0 s n j i).toNat = g 19 (mt_tg s n (g 2 (3 * j).toNat) (g 2 (3 * j + 1).toNat) (g 2 (3 * j + 2).toNat) (Int.tmod i n) (Int.tdiv i n)).toNat := by rw [epm]
    refine pg_br 6 (L := []) (P := pg_inR i ∧ pg_inR (n * n)) (c := (n * n) ≤ i) (st1 := (197, [(0, .inr (.inr 0)), (1, .inl e), (2, .inl j), (3, .inl i)], [], rm g s n)) (st2 := (61, [(0, .inr (.inr 0)), (1, .inl e), (2, .inl j), (3, .inl i)], [], rm g s n)) rfl trivial ⟨⟨by omega, by omega⟩, ⟨by omega, by omega⟩⟩ (fun c_58_2 => ?_) (fun c_58_2 => ?_)
    · exact (by exfalso; omega)
    · refine pg_ca 31 (L := [0 ≤ (3 * j) ∧ (3 * j) < (18 : Int), 0 ≤ ((3 * j) + 1) ∧ ((3 * j) + 1) < (18 : Int), 0 ≤ ((3 * j) + 2) ∧ ((3 * j) + 2) < (18 : Int), n ≠ 0 ∧ pg_inR i ∧ pg_inR n, n ≠ 0 ∧ pg_inR i ∧ pg_inR n]) (Mc := pm_T_pointBy) (as := [.inr (.inr 0), .inl (g 2 ((3 * j).toNat)), .inl (g 2 (((3 * j) + 1).toNat)), .inl (g 2 (((3 * j) + 2).toNat)), .inl (Int.tmod i n), .inl (Int.tdiv i n)]) (h0 := rm g s n) (pc := 105) (lv := [(0, .inr (.inr 0)), (1, .inl e), (2, .inl j), (3, .inl i)]) (rest := []) rfl ⟨⟨by omega, by omega⟩, ⟨by omega, by omega⟩, ⟨by omega, by omega⟩, ⟨by omega, ⟨by omega, by omega⟩, ⟨by omega, by omega⟩⟩, ⟨by omega, ⟨by omega, by omega⟩, ⟨by omega, by omega⟩⟩⟩ (re_pointBy (g := g) hB (g 2 ((3 * j).toNat)) (g 2 (((3 * j) + 1).toNat)) (g 2 (((3 * j) + 2).toNat)) (Int.tmod i n) (Int.tdiv i n) ⟨by omega, by omega⟩ ⟨by omega, by omega⟩ ⟨by omega, by omega⟩ ⟨by omega, by omega⟩ ⟨by omega, by omega⟩) ?_
      intro r_1 h_1 e_1; rw [e_1.1, e_1.2]
      refine pg_br 9 (L := [0 ≤ i ∧ i < (144 : Int), 0 ≤ (mt_tg s n (g 2 ((3 * j).toNat)) (g 2 (((3 * j) + 1).toNat)) (g 2 (((3 * j) + 2).toNat)) (Int.tmod i n) (Int.tdiv i n)) ∧ (mt_tg s n (g 2 ((3 * j).toNat)) (g 2 (((3 * j) + 1).toNat)) (g 2 (((3 * j) + 2).toNat)) (Int.tmod i n) (Int.tdiv i n)) < (144 : Int)]) (P := pg_inR (g 19 i.toNat) ∧ pg_inR (g 19 ((mt_tg s n (g 2 ((3 * j).toNat)) (g 2 (((3 * j) + 1).toNat)) (g 2 (((3 * j) + 2).toNat)) (Int.tmod i n) (Int.tdiv i n)).toNat))) (c := (g 19 ((mt_tg s n (g 2 ((3 * j).toNat)) (g 2 (((3 * j) + 1).toNat)) (g 2 (((3 * j) + 2).toNat)) (Int.tmod i n) (Int.tdiv i n)).toNat)) ≤ (g 19 i.toNat)) (st1 := (132, [(0, .inr (.inr 0)), (1, .inl e), (2, .inl j), (3, .inl i), (4, .inl (mt_tg s n (g 2 ((3 * j).toNat)) (g 2 (((3 * j) + 1).toNat)) (g 2 (((3 * j) + 2).toNat)) (Int.tmod i n) (Int.tdiv i n)))], [], rm (pg_up (pg_up g 0 15 (mt_x s (g 2 ((3 * j).toNat)) (Int.tmod i n) (Int.tdiv i n))) 0 16 (mt_y s (g 2 ((3 * j).toNat)) (Int.tmod i n) (Int.tdiv i n))) s n)) (st2 := (123, [(0, .inr (.inr 0)), (1, .inl e), (2, .inl j), (3, .inl i), (4, .inl (mt_tg s n (g 2 ((3 * j).toNat)) (g 2 (((3 * j) + 1).toNat)) (g 2 (((3 * j) + 2).toNat)) (Int.tmod i n) (Int.tdiv i n)))], [], rm (pg_up (pg_up g 0 15 (mt_x s (g 2 ((3 * j).toNat)) (Int.tmod i n) (Int.tdiv i n))) 0 16 (mt_y s (g 2 ((3 * j).toNat)) (Int.tmod i n) (Int.tdiv i n))) s n)) rfl ⟨⟨by omega, by omega⟩, ⟨by omega, by omega⟩⟩ ⟨⟨by omega, by omega⟩, ⟨by omega, by omega⟩⟩ (fun c_120_3 => ?_) (fun c_120_3 => ?_)
      · refine pg_br 6 (L := [0 ≤ (mt_tg s n (g 2 ((3 * j).toNat)) (g 2 (((3 * j) + 1).toNat)) (g 2 (((3 * j) + 2).toNat)) (Int.tmod i n) (Int.tdiv i n)) ∧ (mt_tg s n (g 2 ((3 * j).toNat)) (g 2 (((3 * j) + 1).toNat)) (g 2 (((3 * j) + 2).toNat)) (Int.tmod i n) (Int.tdiv i n)) < (144 : Int)]) (P := pg_inR e) (c := ¬ e = 0) (st1 := (168, [(0, .inr (.inr 0)), (1, .inl e), (2, .inl j), (3, .inl i), (4, .inl (mt_tg s n (g 2 ((3 * j).toNat)) (g 2 (((3 * j) + 1).toNat)) (g 2 (((3 * j) + 2).toNat)) (Int.tmod i n) (Int.tdiv i n))), (5, .inl (g 19 ((mt_tg s n (g 2 ((3 * j).toNat)) (g 2 (((3 * j) + 1).toNat)) (g 2 (((3 * j) + 2).toNat)) (Int.tmod i n) (Int.tdiv i n)).toNat)))], [], rm (pg_up (pg_up g 0 15 (mt_x s (g 2 ((3 * j).toNat)) (Int.tmod i n) (Int.tdiv i n))) 0 16 (mt_y s (g 2 ((3 * j).toNat)) (Int.tmod i n) (Int.tdiv i n))) s n)) (st2 := (145, [(0, .inr (.inr 0)), (1, .inl e), (2, .inl j), (3, .inl i), (4, .inl (mt_tg s n (g 2 ((3 * j).toNat)) (g 2 (((3 * j) + 1).toNat)) (g 2 (((3 * j) + 2).toNat)) (Int.tmod i n) (Int.tdiv i n))), (5, .inl (g 19 ((mt_tg s n (g 2 ((3 * j).toNat)) (g 2 (((3 * j) + 1).toNat)) (g 2 (((3 * j) + 2).toNat)) (Int.tmod i n) (Int.tdiv i n)).toNat)))], [], rm (pg_up (pg_up g 0 15 (mt_x s (g 2 ((3 * j).toNat)) (Int.tmod i n) (Int.tdiv i n))) 0 16 (mt_y s (g 2 ((3 * j).toNat)) (Int.tmod i n) (Int.tdiv i n))) s n)) rfl ⟨by omega, by omega⟩ ⟨by omega, by omega⟩ (fun c_142_4 => ?_) (fun c_142_4 => ?_)
        · refine pg_go 15 (L := [0 ≤ i ∧ i < (144 : Int), 0 ≤ (mt_tg s n (g 2 ((3 * j).toNat)) (g 2 (((3 * j) + 1).toNat)) (g 2 (((3 * j) + 2).toNat)) (Int.tmod i n) (Int.tdiv i n)) ∧ (mt_tg s n (g 2 ((3 * j).toNat)) (g 2 (((3 * j) + 1).toNat)) (g 2 (((3 * j) + 2).toNat)) (Int.tmod i n) (Int.tdiv i n)) < (144 : Int)]) (st' := (48, [(0, .inr (.inr 0)), (1, .inl 1), (2, .inl j), (3, .inl (i + 1)), (4, .inl (mt_tg s n (g 2 ((3 * j).toNat)) (g 2 (((3 * j) + 1).toNat)) (g 2 (((3 * j) + 2).toNat)) (Int.tmod i n) (Int.tdiv i n))), (5, .inl (g 19 ((mt_tg s n (g 2 ((3 * j).toNat)) (g 2 (((3 * j) + 1).toNat)) (g 2 (((3 * j) + 2).toNat)) (Int.tmod i n) (Int.tdiv i n)).toNat)))], [], pg_up (pg_up (rm (pg_up (pg_up g 0 15 (mt_x s (g 2 ((3 * j).toNat)) (Int.tmod i n) (Int.tdiv i n))) 0 16 (mt_y s (g 2 ((3 * j).toNat)) (Int.tmod i n) (Int.tdiv i n))) s n) 19 i.toNat (g 19 ((mt_tg s n (g 2 ((3 * j).toNat)) (g 2 (((3 * j) + 1).toNat)) (g 2 (((3 * j) + 2).toNat)) (Int.tmod i n) (Int.tdiv i n)).toNat))) 19 ((mt_tg s n (g 2 ((3 * j).toNat)) (g 2 (((3 * j) + 1).toNat)) (g 2 (((3 * j) + 2).toNat)) (Int.tmod i n) (Int.tdiv i n)).toNat) (g 19 ((mt_tg s n (g 2 ((3 * j).toNat)) (g 2 (((3 * j) + 1).toNat)) (g 2 (((3 * j) + 2).toNat)) (Int.tmod i n) (Int.tdiv i n)).toNat)))) rfl ⟨⟨by omega, by omega⟩, ⟨by omega, by omega⟩⟩ ?_
          rw [rm_upq (q := 19) (by decide), rm_upq (q := 19) (by decide)]
          refine pg_pick [0, 1, 2, 3] rfl ?_
          refine ih _ _ _ (by omega) (by omega) (rf_q (rf_q (rf_0 (rf_0 hf (by decide) _) (by decide) _) (by decide) (by decide) _ _) (by decide) (by decide) _ _) ?_
          have hst := ri_PI_s hn (by omega) (by omega) hP (low := (g 19 ((mt_tg s n (g 2 ((3 * j).toNat)) (g 2 (((3 * j) + 1).toNat)) (g 2 (((3 * j) + 2).toNat)) (Int.tmod i n) (Int.tdiv i n)).toNat))) (e' := 1) (by omega) (by omega) (by omega)
          have eF : (pg_up (pg_up (pg_up (pg_up g 0 15 (mt_x s (g 2 ((3 * j).toNat)) (Int.tmod i n) (Int.tdiv i n))) 0 16 (mt_y s (g 2 ((3 * j).toNat)) (Int.tmod i n) (Int.tdiv i n))) 19 i.toNat (g 19 ((mt_tg s n (g 2 ((3 * j).toNat)) (g 2 (((3 * j) + 1).toNat)) (g 2 (((3 * j) + 2).toNat)) (Int.tmod i n) (Int.tdiv i n)).toNat))) 19 ((mt_tg s n (g 2 ((3 * j).toNat)) (g 2 (((3 * j) + 1).toNat)) (g 2 (((3 * j) + 2).toNat)) (Int.tmod i n) (Int.tdiv i n)).toNat) (g 19 ((mt_tg s n (g 2 ((3 * j).toNat)) (g 2 (((3 * j) + 1).toNat)) (g 2 (((3 * j) + 2).toNat)) (Int.tmod i n) (Int.tdiv i n)).toNat))) 19 = (fun k => if k = (ri_gm g0 s n j i).toNat then (g 19 ((mt_tg s n (g 2 ((3 * j).toNat)) (g 2 (((3 * j) + 1).toNat)) (g 2 (((3 * j) + 2).toNat)) (Int.tmod i n) (Int.tdiv i n)).toNat)) else if k = i.toNat then (g 19 ((mt_tg s n (g 2 ((3 * j).toNat)) (g 2 (((3 * j) + 1).toNat)) (g 2 (((3 * j) + 2).toNat)) (Int.tmod i n) (Int.tdiv i n)).toNat)) else g 19 k) := by
            funext k
            rw [pg_up_at, pg_up_at, epm]
            rfl
          rw [eF]
          exact hst
        · refine pg_br 5 (L := [0 ≤ i ∧ i < (144 : Int)]) (P := pg_inR (g 19 i.toNat) ∧ pg_inR (g 19 ((mt_tg s n (g 2 ((3 * j).toNat)) (g 2 (((3 * j) + 1).toNat)) (g 2 (((3 * j) + 2).toNat)) (Int.tmod i n) (Int.tdiv i n)).toNat))) (c := ¬ (g 19 i.toNat) = (g 19 ((mt_tg s n (g 2 ((3 * j).toNat)) (g 2 (((3 * j) + 1).toNat)) (g 2 (((3 * j) + 2).toNat)) (Int.tmod i n) (Int.tdiv i n)).toNat))) (st1 := (168, [(0, .inr (.inr 0)), (1, .inl e), (2, .inl j), (3, .inl i), (4, .inl (mt_tg s n (g 2 ((3 * j).toNat)) (g 2 (((3 * j) + 1).toNat)) (g 2 (((3 * j) + 2).toNat)) (Int.tmod i n) (Int.tdiv i n))), (5, .inl (g 19 ((mt_tg s n (g 2 ((3 * j).toNat)) (g 2 (((3 * j) + 1).toNat)) (g 2 (((3 * j) + 2).toNat)) (Int.tmod i n) (Int.tdiv i n)).toNat)))], [], rm (pg_up (pg_up g 0 15 (mt_x s (g 2 ((3 * j).toNat)) (Int.tmod i n) (Int.tdiv i n))) 0 16 (mt_y s (g 2 ((3 * j).toNat)) (Int.tmod i n) (Int.tdiv i n))) s n)) (st2 := (156, [(0, .inr (.inr 0)), (1, .inl e), (2, .inl j), (3, .inl i), (4, .inl (mt_tg s n (g 2 ((3 * j).toNat)) (g 2 (((3 * j) + 1).toNat)) (g 2 (((3 * j) + 2).toNat)) (Int.tmod i n) (Int.tdiv i n))), (5, .inl (g 19 ((mt_tg s n (g 2 ((3 * j).toNat)) (g 2 (((3 * j) + 1).toNat)) (g 2 (((3 * j) + 2).toNat)) (Int.tmod i n) (Int.tdiv i n)).toNat)))], [], rm (pg_up (pg_up g 0 15 (mt_x s (g 2 ((3 * j).toNat)) (Int.tmod i n) (Int.tdiv i n))) 0 16 (mt_y s (g 2 ((3 * j).toNat)) (Int.tmod i n) (Int.tdiv i n))) s n)) rfl ⟨by omega, by omega⟩ ⟨⟨by omega, by omega⟩, ⟨by omega, by omega⟩⟩ (fun c_153_5 => ?_) (fun c_153_5 => ?_)
          · refine pg_go 15 (L := [0 ≤ i ∧ i < (144 : Int), 0 ≤ (mt_tg s n (g 2 ((3 * j).toNat)) (g 2 (((3 * j) + 1).toNat)) (g 2 (((3 * j) + 2).toNat)) (Int.tmod i n) (Int.tdiv i n)) ∧ (mt_tg s n (g 2 ((3 * j).toNat)) (g 2 (((3 * j) + 1).toNat)) (g 2 (((3 * j) + 2).toNat)) (Int.tmod i n) (Int.tdiv i n)) < (144 : Int)]) (st' := (48, [(0, .inr (.inr 0)), (1, .inl 1), (2, .inl j), (3, .inl (i + 1)), (4, .inl (mt_tg s n (g 2 ((3 * j).toNat)) (g 2 (((3 * j) + 1).toNat)) (g 2 (((3 * j) + 2).toNat)) (Int.tmod i n) (Int.tdiv i n))), (5, .inl (g 19 ((mt_tg s n (g 2 ((3 * j).toNat)) (g 2 (((3 * j) + 1).toNat)) (g 2 (((3 * j) + 2).toNat)) (Int.tmod i n) (Int.tdiv i n)).toNat)))], [], pg_up (pg_up (rm (pg_up (pg_up g 0 15 (mt_x s (g 2 ((3 * j).toNat)) (Int.tmod i n) (Int.tdiv i n))) 0 16 (mt_y s (g 2 ((3 * j).toNat)) (Int.tmod i n) (Int.tdiv i n))) s n) 19 i.toNat (g 19 ((mt_tg s n (g 2 ((3 * j).toNat)) (g 2 (((3 * j) + 1).toNat)) (g 2 (((3 * j) + 2).toNat)) (Int.tmod i n) (Int.tdiv i n)).toNat))) 19 ((mt_tg s n (g 2 ((3 * j).toNat)) (g 2 (((3 * j) + 1).toNat)) (g 2 (((3 * j) + 2).toNat)) (Int.tmod i n) (Int.tdiv i n)).toNat) (g 19 ((mt_tg s n (g 2 ((3 * j).toNat)) (g 2 (((3 * j) + 1).toNat)) (g 2 (((3 * j) + 2).toNat)) (Int.tmod i n) (Int.tdiv i n)).toNat)))) rfl ⟨⟨by omega, by omega⟩, ⟨by omega, by omega⟩⟩ ?_
            rw [rm_upq (q := 19) (by decide), rm_upq (q := 19) (by decide)]
            refine pg_pick [0, 1, 2, 3] rfl ?_
            refine ih _ _ _ (by omega) (by omega) (rf_q (rf_q (rf_0 (rf_0 hf (by decide) _) (by decide) _) (by decide) (by decide) _ _) (by decide) (by decide) _ _) ?_
            have hst := ri_PI_s hn (by omega) (by omega) hP (low := (g 19 ((mt_tg s n (g 2 ((3 * j).toNat)) (g 2 (((3 * j) + 1).toNat)) (g 2 (((3 * j) + 2).toNat)) (Int.tmod i n) (Int.tdiv i n)).toNat))) (e' := 1) (by omega) (by omega) (by omega)
            have eF : (pg_up (pg_up (pg_up (pg_up g 0 15 (mt_x s (g 2 ((3 * j).toNat)) (Int.tmod i n) (Int.tdiv i n))) 0 16 (mt_y s (g 2 ((3 * j).toNat)) (Int.tmod i n) (Int.tdiv i n))) 19 i.toNat (g 19 ((mt_tg s n (g 2 ((3 * j).toNat)) (g 2 (((3 * j) + 1).toNat)) (g 2 (((3 * j) + 2).toNat)) (Int.tmod i n) (Int.tdiv i n)).toNat))) 19 ((mt_tg s n (g 2 ((3 * j).toNat)) (g 2 (((3 * j) + 1).toNat)) (g 2 (((3 * j) + 2).toNat)) (Int.tmod i n) (Int.tdiv i n)).toNat) (g 19 ((mt_tg s n (g 2 ((3 * j).toNat)) (g 2 (((3 * j) + 1).toNat)) (g 2 (((3 * j) + 2).toNat)) (Int.tmod i n) (Int.tdiv i n)).toNat))) 19 = (fun k => if k = (ri_gm g0 s n j i).toNat then (g 19 ((mt_tg s n (g 2 ((3 * j).toNat)) (g 2 (((3 * j) + 1).toNat)) (g 2 (((3 * j) + 2).toNat)) (Int.tmod i n) (Int.tdiv i n)).toNat)) else if k = i.toNat then (g 19 ((mt_tg s n (g 2 ((3 * j).toNat)) (g 2 (((3 * j) + 1).toNat)) (g 2 (((3 * j) + 2).toNat)) (Int.tmod i n) (Int.tdiv i n)).toNat)) else g 19 k) := by
              funext k
              rw [pg_up_at, pg_up_at, epm]
              rfl
            rw [eF]
            exact hst
          · refine pg_br 5 (L := [0 ≤ (mt_tg s n (g 2 ((3 * j).toNat)) (g 2 (((3 * j) + 1).toNat)) (g 2 (((3 * j) + 2).toNat)) (Int.tmod i n) (Int.tdiv i n)) ∧ (mt_tg s n (g 2 ((3 * j).toNat)) (g 2 (((3 * j) + 1).toNat)) (g 2 (((3 * j) + 2).toNat)) (Int.tmod i n) (Int.tdiv i n)) < (144 : Int)]) (P := pg_inR (g 19 ((mt_tg s n (g 2 ((3 * j).toNat)) (g 2 (((3 * j) + 1).toNat)) (g 2 (((3 * j) + 2).toNat)) (Int.tmod i n) (Int.tdiv i n)).toNat)) ∧ pg_inR (g 19 ((mt_tg s n (g 2 ((3 * j).toNat)) (g 2 (((3 * j) + 1).toNat)) (g 2 (((3 * j) + 2).toNat)) (Int.tmod i n) (Int.tdiv i n)).toNat))) (c := (g 19 ((mt_tg s n (g 2 ((3 * j).toNat)) (g 2 (((3 * j) + 1).toNat)) (g 2 (((3 * j) + 2).toNat)) (Int.tmod i n) (Int.tdiv i n)).toNat)) = (g 19 ((mt_tg s n (g 2 ((3 * j).toNat)) (g 2 (((3 * j) + 1).toNat)) (g 2 (((3 * j) + 2).toNat)) (Int.tmod i n) (Int.tdiv i n)).toNat))) (st1 := (172, [(0, .inr (.inr 0)), (1, .inl e), (2, .inl j), (3, .inl i), (4, .inl (mt_tg s n (g 2 ((3 * j).toNat)) (g 2 (((3 * j) + 1).toNat)) (g 2 (((3 * j) + 2).toNat)) (Int.tmod i n) (Int.tdiv i n))), (5, .inl (g 19 ((mt_tg s n (g 2 ((3 * j).toNat)) (g 2 (((3 * j) + 1).toNat)) (g 2 (((3 * j) + 2).toNat)) (Int.tmod i n) (Int.tdiv i n)).toNat)))], [], rm (pg_up (pg_up g 0 15 (mt_x s (g 2 ((3 * j).toNat)) (Int.tmod i n) (Int.tdiv i n))) 0 16 (mt_y s (g 2 ((3 * j).toNat)) (Int.tmod i n) (Int.tdiv i n))) s n)) (st2 := (168, [(0, .inr (.inr 0)), (1, .inl e), (2, .inl j), (3, .inl i), (4, .inl (mt_tg s n (g 2 ((3 * j).toNat)) (g 2 (((3 * j) + 1).toNat)) (g 2 (((3 * j) + 2).toNat)) (Int.tmod i n) (Int.tdiv i n))), (5, .inl (g 19 ((mt_tg s n (g 2 ((3 * j).toNat)) (g 2 (((3 * j) + 1).toNat)) (g 2 (((3 * j) + 2).toNat)) (Int.tmod i n) (Int.tdiv i n)).toNat)))], [], rm (pg_up (pg_up g 0 15 (mt_x s (g 2 ((3 * j).toNat)) (Int.tmod i n) (Int.tdiv i n))) 0 16 (mt_y s (g 2 ((3 * j).toNat)) (Int.tmod i n) (Int.tdiv i n))) s n)) rfl ⟨by omega, by omega⟩ ⟨⟨by omega, by omega⟩, ⟨by omega, by omega⟩⟩ (fun c_165_6 => ?_) (fun c_165_6 => ?_)
            · refine pg_go 14 (L := [0 ≤ i ∧ i < (144 : Int), 0 ≤ (mt_tg s n (g 2 ((3 * j).toNat)) (g 2 (((3 * j) + 1).toNat)) (g 2 (((3 * j) + 2).toNat)) (Int.tmod i n) (Int.tdiv i n)) ∧ (mt_tg s n (g 2 ((3 * j).toNat)) (g 2 (((3 * j) + 1).toNat)) (g 2 (((3 * j) + 2).toNat)) (Int.tmod i n) (Int.tdiv i n)) < (144 : Int)]) (st' := (48, [(0, .inr (.inr 0)), (1, .inl 0), (2, .inl j), (3, .inl (i + 1)), (4, .inl (mt_tg s n (g 2 ((3 * j).toNat)) (g 2 (((3 * j) + 1).toNat)) (g 2 (((3 * j) + 2).toNat)) (Int.tmod i n) (Int.tdiv i n))), (5, .inl (g 19 ((mt_tg s n (g 2 ((3 * j).toNat)) (g 2 (((3 * j) + 1).toNat)) (g 2 (((3 * j) + 2).toNat)) (Int.tmod i n) (Int.tdiv i n)).toNat)))], [], pg_up (pg_up (rm (pg_up (pg_up g 0 15 (mt_x s (g 2 ((3 * j).toNat)) (Int.tmod i n) (Int.tdiv i n))) 0 16 (mt_y s (g 2 ((3 * j).toNat)) (Int.tmod i n) (Int.tdiv i n))) s n) 19 i.toNat (g 19 ((mt_tg s n (g 2 ((3 * j).toNat)) (g 2 (((3 * j) + 1).toNat)) (g 2 (((3 * j) + 2).toNat)) (Int.tmod i n) (Int.tdiv i n)).toNat))) 19 ((mt_tg s n (g 2 ((3 * j).toNat)) (g 2 (((3 * j) + 1).toNat)) (g 2 (((3 * j) + 2).toNat)) (Int.tmod i n) (Int.tdiv i n)).toNat) (g 19 ((mt_tg s n (g 2 ((3 * j).toNat)) (g 2 (((3 * j) + 1).toNat)) (g 2 (((3 * j) + 2).toNat)) (Int.tmod i n) (Int.tdiv i n)).toNat)))) rfl ⟨⟨by omega, by omega⟩, ⟨by omega, by omega⟩⟩ ?_
              rw [rm_upq (q := 19) (by decide), rm_upq (q := 19) (by decide)]
              refine pg_pick [0, 1, 2, 3] rfl ?_
              refine ih _ _ _ (by omega) (by omega) (rf_q (rf_q (rf_0 (rf_0 hf (by decide) _) (by decide) _) (by decide) (by decide) _ _) (by decide) (by decide) _ _) ?_
              have hst := ri_PI_s hn (by omega) (by omega) hP (low := (g 19 ((mt_tg s n (g 2 ((3 * j).toNat)) (g 2 (((3 * j) + 1).toNat)) (g 2 (((3 * j) + 2).toNat)) (Int.tmod i n) (Int.tdiv i n)).toNat))) (e' := 0) (by omega) (by omega) (by omega)
              have eF : (pg_up (pg_up (pg_up (pg_up g 0 15 (mt_x s (g 2 ((3 * j).toNat)) (Int.tmod i n) (Int.tdiv i n))) 0 16 (mt_y s (g 2 ((3 * j).toNat)) (Int.tmod i n) (Int.tdiv i n))) 19 i.toNat (g 19 ((mt_tg s n (g 2 ((3 * j).toNat)) (g 2 (((3 * j) + 1).toNat)) (g 2 (((3 * j) + 2).toNat)) (Int.tmod i n) (Int.tdiv i n)).toNat))) 19 ((mt_tg s n (g 2 ((3 * j).toNat)) (g 2 (((3 * j) + 1).toNat)) (g 2 (((3 * j) + 2).toNat)) (Int.tmod i n) (Int.tdiv i n)).toNat) (g 19 ((mt_tg s n (g 2 ((3 * j).toNat)) (g 2 (((3 * j) + 1).toNat)) (g 2 (((3 * j) + 2).toNat)) (Int.tmod i n) (Int.tdiv i n)).toNat))) 19 = (fun k => if k = (ri_gm g0 s n j i).toNat then (g 19 ((mt_tg s n (g 2 ((3 * j).toNat)) (g 2 (((3 * j) + 1).toNat)) (g 2 (((3 * j) + 2).toNat)) (Int.tmod i n) (Int.tdiv i n)).toNat)) else if k = i.toNat then (g 19 ((mt_tg s n (g 2 ((3 * j).toNat)) (g 2 (((3 * j) + 1).toNat)) (g 2 (((3 * j) + 2).toNat)) (Int.tmod i n) (Int.tdiv i n)).toNat)) else g 19 k) := by
                funext k
                rw [pg_up_at, pg_up_at, epm]
                rfl
              rw [eF]
              exact hst
            · refine pg_go 15 (L := [0 ≤ i ∧ i < (144 : Int), 0 ≤ (mt_tg s n (g 2 ((3 * j).toNat)) (g 2 (((3 * j) + 1).toNat)) (g 2 (((3 * j) + 2).toNat)) (Int.tmod i n) (Int.tdiv i n)) ∧ (mt_tg s n (g 2 ((3 * j).toNat)) (g 2 (((3 * j) + 1).toNat)) (g 2 (((3 * j) + 2).toNat)) (Int.tmod i n) (Int.tdiv i n)) < (144 : Int)]) (st' := (48, [(0, .inr (.inr 0)), (1, .inl 1), (2, .inl j), (3, .inl (i + 1)), (4, .inl (mt_tg s n (g 2 ((3 * j).toNat)) (g 2 (((3 * j) + 1).toNat)) (g 2 (((3 * j) + 2).toNat)) (Int.tmod i n) (Int.tdiv i n))), (5, .inl (g 19 ((mt_tg s n (g 2 ((3 * j).toNat)) (g 2 (((3 * j) + 1).toNat)) (g 2 (((3 * j) + 2).toNat)) (Int.tmod i n) (Int.tdiv i n)).toNat)))], [], pg_up (pg_up (rm (pg_up (pg_up g 0 15 (mt_x s (g 2 ((3 * j).toNat)) (Int.tmod i n) (Int.tdiv i n))) 0 16 (mt_y s (g 2 ((3 * j).toNat)) (Int.tmod i n) (Int.tdiv i n))) s n) 19 i.toNat (g 19 ((mt_tg s n (g 2 ((3 * j).toNat)) (g 2 (((3 * j) + 1).toNat)) (g 2 (((3 * j) + 2).toNat)) (Int.tmod i n) (Int.tdiv i n)).toNat))) 19 ((mt_tg s n (g 2 ((3 * j).toNat)) (g 2 (((3 * j) + 1).toNat)) (g 2 (((3 * j) + 2).toNat)) (Int.tmod i n) (Int.tdiv i n)).toNat) (g 19 ((mt_tg s n (g 2 ((3 * j).toNat)) (g 2 (((3 * j) + 1).toNat)) (g 2 (((3 * j) + 2).toNat)) (Int.tmod i n) (Int.tdiv i n)).toNat)))) rfl ⟨⟨by omega, by omega⟩, ⟨by omega, by omega⟩⟩ ?_
              rw [rm_upq (q := 19) (by decide), rm_upq (q := 19) (by decide)]
              refine pg_pick [0, 1, 2, 3] rfl ?_
              refine ih _ _ _ (by omega) (by omega) (rf_q (rf_q (rf_0 (rf_0 hf (by decide) _) (by decide) _) (by decide) (by decide) _ _) (by decide) (by decide) _ _) ?_
              have hst := ri_PI_s hn (by omega) (by omega) hP (low := (g 19 ((mt_tg s n (g 2 ((3 * j).toNat)) (g 2 (((3 * j) + 1).toNat)) (g 2 (((3 * j) + 2).toNat)) (Int.tmod i n) (Int.tdiv i n)).toNat))) (e' := 1) (by omega) (by omega) (by omega)
              have eF : (pg_up (pg_up (pg_up (pg_up g 0 15 (mt_x s (g 2 ((3 * j).toNat)) (Int.tmod i n) (Int.tdiv i n))) 0 16 (mt_y s (g 2 ((3 * j).toNat)) (Int.tmod i n) (Int.tdiv i n))) 19 i.toNat (g 19 ((mt_tg s n (g 2 ((3 * j).toNat)) (g 2 (((3 * j) + 1).toNat)) (g 2 (((3 * j) + 2).toNat)) (Int.tmod i n) (Int.tdiv i n)).toNat))) 19 ((mt_tg s n (g 2 ((3 * j).toNat)) (g 2 (((3 * j) + 1).toNat)) (g 2 (((3 * j) + 2).toNat)) (Int.tmod i n) (Int.tdiv i n)).toNat) (g 19 ((mt_tg s n (g 2 ((3 * j).toNat)) (g 2 (((3 * j) + 1).toNat)) (g 2 (((3 * j) + 2).toNat)) (Int.tmod i n) (Int.tdiv i n)).toNat))) 19 = (fun k => if k = (ri_gm g0 s n j i).toNat then (g 19 ((mt_tg s n (g 2 ((3 * j).toNat)) (g 2 (((3 * j) + 1).toNat)) (g 2 (((3 * j) + 2).toNat)) (Int.tmod i n) (Int.tdiv i n)).toNat)) else if k = i.toNat then (g 19 ((mt_tg s n (g 2 ((3 * j).toNat)) (g 2 (((3 * j) + 1).toNat)) (g 2 (((3 * j) + 2).toNat)) (Int.tmod i n) (Int.tdiv i n)).toNat)) else g 19 k) := by
                funext k
                rw [pg_up_at, pg_up_at, epm]
                rfl
              rw [eF]
              exact hst
      · refine pg_br 7 (L := [0 ≤ i ∧ i < (144 : Int)]) (P := pg_inR e) (c := ¬ e = 0) (st1 := (168, [(0, .inr (.inr 0)), (1, .inl e), (2, .inl j), (3, .inl i), (4, .inl (mt_tg s n (g 2 ((3 * j).toNat)) (g 2 (((3 * j) + 1).toNat)) (g 2 (((3 * j) + 2).toNat)) (Int.tmod i n) (Int.tdiv i n))), (5, .inl (g 19 i.toNat))], [], rm (pg_up (pg_up g 0 15 (mt_x s (g 2 ((3 * j).toNat)) (Int.tmod i n) (Int.tdiv i n))) 0 16 (mt_y s (g 2 ((3 * j).toNat)) (Int.tmod i n) (Int.tdiv i n))) s n)) (st2 := (145, [(0, .inr (.inr 0)), (1, .inl e), (2, .inl j), (3, .inl i), (4, .inl (mt_tg s n (g 2 ((3 * j).toNat)) (g 2 (((3 * j) + 1).toNat)) (g 2 (((3 * j) + 2).toNat)) (Int.tmod i n) (Int.tdiv i n))), (5, .inl (g 19 i.toNat))], [], rm (pg_up (pg_up g 0 15 (mt_x s (g 2 ((3 * j).toNat)) (Int.tmod i n) (Int.tdiv i n))) 0 16 (mt_y s (g 2 ((3 * j).toNat)) (Int.tmod i n) (Int.tdiv i n))) s n)) rfl ⟨by omega, by omega⟩ ⟨by omega, by omega⟩ (fun c_142_7 => ?_) (fun c_142_7 => ?_)
        · refine pg_go 15 (L := [0 ≤ i ∧ i < (144 : Int), 0 ≤ (mt_tg s n (g 2 ((3 * j).toNat)) (g 2 (((3 * j) + 1).toNat)) (g 2 (((3 * j) + 2).toNat)) (Int.tmod i n) (Int.tdiv i n)) ∧ (mt_tg s n (g 2 ((3 * j).toNat)) (g 2 (((3 * j) + 1).toNat)) (g 2 (((3 * j) + 2).toNat)) (Int.tmod i n) (Int.tdiv i n)) < (144 : Int)]) (st' := (48, [(0, .inr (.inr 0)), (1, .inl 1), (2, .inl j), (3, .inl (i + 1)), (4, .inl (mt_tg s n (g 2 ((3 * j).toNat)) (g 2 (((3 * j) + 1).toNat)) (g 2 (((3 * j) + 2).toNat)) (Int.tmod i n) (Int.tdiv i n))), (5, .inl (g 19 i.toNat))], [], pg_up (pg_up (rm (pg_up (pg_up g 0 15 (mt_x s (g 2 ((3 * j).toNat)) (Int.tmod i n) (Int.tdiv i n))) 0 16 (mt_y s (g 2 ((3 * j).toNat)) (Int.tmod i n) (Int.tdiv i n))) s n) 19 i.toNat (g 19 i.toNat)) 19 ((mt_tg s n (g 2 ((3 * j).toNat)) (g 2 (((3 * j) + 1).toNat)) (g 2 (((3 * j) + 2).toNat)) (Int.tmod i n) (Int.tdiv i n)).toNat) (g 19 i.toNat))) rfl ⟨⟨by omega, by omega⟩, ⟨by omega, by omega⟩⟩ ?_
          rw [rm_upq (q := 19) (by decide), rm_upq (q := 19) (by decide)]
          refine pg_pick [0, 1, 2, 3] rfl ?_
          refine ih _ _ _ (by omega) (by omega) (rf_q (rf_q (rf_0 (rf_0 hf (by decide) _) (by decide) _) (by decide) (by decide) _ _) (by decide) (by decide) _ _) ?_
          have hst := ri_PI_s hn (by omega) (by omega) hP (low := (g 19 i.toNat)) (e' := 1) (by omega) (by omega) (by omega)
          have eF : (pg_up (pg_up (pg_up (pg_up g 0 15 (mt_x s (g 2 ((3 * j).toNat)) (Int.tmod i n) (Int.tdiv i n))) 0 16 (mt_y s (g 2 ((3 * j).toNat)) (Int.tmod i n) (Int.tdiv i n))) 19 i.toNat (g 19 i.toNat)) 19 ((mt_tg s n (g 2 ((3 * j).toNat)) (g 2 (((3 * j) + 1).toNat)) (g 2 (((3 * j) + 2).toNat)) (Int.tmod i n) (Int.tdiv i n)).toNat) (g 19 i.toNat)) 19 = (fun k => if k = (ri_gm g0 s n j i).toNat then (g 19 i.toNat) else if k = i.toNat then (g 19 i.toNat) else g 19 k) := by
            funext k
            rw [pg_up_at, pg_up_at, epm]
            rfl
          rw [eF]
          exact hst
        · refine pg_br 5 (L := [0 ≤ i ∧ i < (144 : Int)]) (P := pg_inR (g 19 i.toNat) ∧ pg_inR (g 19 i.toNat)) (c := ¬ (g 19 i.toNat) = (g 19 i.toNat)) (st1 := (168, [(0, .inr (.inr 0)), (1, .inl e), (2, .inl j), (3, .inl i), (4, .inl (mt_tg s n (g 2 ((3 * j).toNat)) (g 2 (((3 * j) + 1).toNat)) (g 2 (((3 * j) + 2).toNat)) (Int.tmod i n) (Int.tdiv i n))), (5, .inl (g 19 i.toNat))], [], rm (pg_up (pg_up g 0 15 (mt_x s (g 2 ((3 * j).toNat)) (Int.tmod i n) (Int.tdiv i n))) 0 16 (mt_y s (g 2 ((3 * j).toNat)) (Int.tmod i n) (Int.tdiv i n))) s n)) (st2 := (156, [(0, .inr (.inr 0)), (1, .inl e), (2, .inl j), (3, .inl i), (4, .inl (mt_tg s n (g 2 ((3 * j).toNat)) (g 2 (((3 * j) + 1).toNat)) (g 2 (((3 * j) + 2).toNat)) (Int.tmod i n) (Int.tdiv i n))), (5, .inl (g 19 i.toNat))], [], rm (pg_up (pg_up g 0 15 (mt_x s (g 2 ((3 * j).toNat)) (Int.tmod i n) (Int.tdiv i n))) 0 16 (mt_y s (g 2 ((3 * j).toNat)) (Int.tmod i n) (Int.tdiv i n))) s n)) rfl ⟨by omega, by omega⟩ ⟨⟨by omega, by omega⟩, ⟨by omega, by omega⟩⟩ (fun c_153_8 => ?_) (fun c_153_8 => ?_)
          · refine pg_go 15 (L := [0 ≤ i ∧ i < (144 : Int), 0 ≤ (mt_tg s n (g 2 ((3 * j).toNat)) (g 2 (((3 * j) + 1).toNat)) (g 2 (((3 * j) + 2).toNat)) (Int.tmod i n) (Int.tdiv i n)) ∧ (mt_tg s n (g 2 ((3 * j).toNat)) (g 2 (((3 * j) + 1).toNat)) (g 2 (((3 * j) + 2).toNat)) (Int.tmod i n) (Int.tdiv i n)) < (144 : Int)]) (st' := (48, [(0, .inr (.inr 0)), (1, .inl 1), (2, .inl j), (3, .inl (i + 1)), (4, .inl (mt_tg s n (g 2 ((3 * j).toNat)) (g 2 (((3 * j) + 1).toNat)) (g 2 (((3 * j) + 2).toNat)) (Int.tmod i n) (Int.tdiv i n))), (5, .inl (g 19 i.toNat))], [], pg_up (pg_up (rm (pg_up (pg_up g 0 15 (mt_x s (g 2 ((3 * j).toNat)) (Int.tmod i n) (Int.tdiv i n))) 0 16 (mt_y s (g 2 ((3 * j).toNat)) (Int.tmod i n) (Int.tdiv i n))) s n) 19 i.toNat (g 19 i.toNat)) 19 ((mt_tg s n (g 2 ((3 * j).toNat)) (g 2 (((3 * j) + 1).toNat)) (g 2 (((3 * j) + 2).toNat)) (Int.tmod i n) (Int.tdiv i n)).toNat) (g 19 i.toNat))) rfl ⟨⟨by omega, by omega⟩, ⟨by omega, by omega⟩⟩ ?_
            rw [rm_upq (q := 19) (by decide), rm_upq (q := 19) (by decide)]
            refine pg_pick [0, 1, 2, 3] rfl ?_
            refine ih _ _ _ (by omega) (by omega) (rf_q (rf_q (rf_0 (rf_0 hf (by decide) _) (by decide) _) (by decide) (by decide) _ _) (by decide) (by decide) _ _) ?_
            have hst := ri_PI_s hn (by omega) (by omega) hP (low := (g 19 i.toNat)) (e' := 1) (by omega) (by omega) (by omega)
            have eF : (pg_up (pg_up (pg_up (pg_up g 0 15 (mt_x s (g 2 ((3 * j).toNat)) (Int.tmod i n) (Int.tdiv i n))) 0 16 (mt_y s (g 2 ((3 * j).toNat)) (Int.tmod i n) (Int.tdiv i n))) 19 i.toNat (g 19 i.toNat)) 19 ((mt_tg s n (g 2 ((3 * j).toNat)) (g 2 (((3 * j) + 1).toNat)) (g 2 (((3 * j) + 2).toNat)) (Int.tmod i n) (Int.tdiv i n)).toNat) (g 19 i.toNat)) 19 = (fun k => if k = (ri_gm g0 s n j i).toNat then (g 19 i.toNat) else if k = i.toNat then (g 19 i.toNat) else g 19 k) := by
              funext k
              rw [pg_up_at, pg_up_at, epm]
              rfl
            rw [eF]
            exact hst
          · refine pg_br 5 (L := [0 ≤ (mt_tg s n (g 2 ((3 * j).toNat)) (g 2 (((3 * j) + 1).toNat)) (g 2 (((3 * j) + 2).toNat)) (Int.tmod i n) (Int.tdiv i n)) ∧ (mt_tg s n (g 2 ((3 * j).toNat)) (g 2 (((3 * j) + 1).toNat)) (g 2 (((3 * j) + 2).toNat)) (Int.tmod i n) (Int.tdiv i n)) < (144 : Int)]) (P := pg_inR (g 19 ((mt_tg s n (g 2 ((3 * j).toNat)) (g 2 (((3 * j) + 1).toNat)) (g 2 (((3 * j) + 2).toNat)) (Int.tmod i n) (Int.tdiv i n)).toNat)) ∧ pg_inR (g 19 i.toNat)) (c := (g 19 ((mt_tg s n (g 2 ((3 * j).toNat)) (g 2 (((3 * j) + 1).toNat)) (g 2 (((3 * j) + 2).toNat)) (Int.tmod i n) (Int.tdiv i n)).toNat)) = (g 19 i.toNat)) (st1 := (172, [(0, .inr (.inr 0)), (1, .inl e), (2, .inl j), (3, .inl i), (4, .inl (mt_tg s n (g 2 ((3 * j).toNat)) (g 2 (((3 * j) + 1).toNat)) (g 2 (((3 * j) + 2).toNat)) (Int.tmod i n) (Int.tdiv i n))), (5, .inl (g 19 i.toNat))], [], rm (pg_up (pg_up g 0 15 (mt_x s (g 2 ((3 * j).toNat)) (Int.tmod i n) (Int.tdiv i n))) 0 16 (mt_y s (g 2 ((3 * j).toNat)) (Int.tmod i n) (Int.tdiv i n))) s n)) (st2 := (168, [(0, .inr (.inr 0)), (1, .inl e), (2, .inl j), (3, .inl i), (4, .inl (mt_tg s n (g 2 ((3 * j).toNat)) (g 2 (((3 * j) + 1).toNat)) (g 2 (((3 * j) + 2).toNat)) (Int.tmod i n) (Int.tdiv i n))), (5, .inl (g 19 i.toNat))], [], rm (pg_up (pg_up g 0 15 (mt_x s (g 2 ((3 * j).toNat)) (Int.tmod i n) (Int.tdiv i n))) 0 16 (mt_y s (g 2 ((3 * j).toNat)) (Int.tmod i n) (Int.tdiv i n))) s n)) rfl ⟨by omega, by omega⟩ ⟨⟨by omega, by omega⟩, ⟨by omega, by omega⟩⟩ (fun c_165_9 => ?_) (fun c_165_9 => ?_)
            · refine pg_go 14 (L := [0 ≤ i ∧ i < (144 : Int), 0 ≤ (mt_tg s n (g 2 ((3 * j).toNat)) (g 2 (((3 * j) + 1).toNat)) (g 2 (((3 * j) + 2).toNat)) (Int.tmod i n) (Int.tdiv i n)) ∧ (mt_tg s n (g 2 ((3 * j).toNat)) (g 2 (((3 * j) + 1).toNat)) (g 2 (((3 * j) + 2).toNat)) (Int.tmod i n) (Int.tdiv i n)) < (144 : Int)]) (st' := (48, [(0, .inr (.inr 0)), (1, .inl 0), (2, .inl j), (3, .inl (i + 1)), (4, .inl (mt_tg s n (g 2 ((3 * j).toNat)) (g 2 (((3 * j) + 1).toNat)) (g 2 (((3 * j) + 2).toNat)) (Int.tmod i n) (Int.tdiv i n))), (5, .inl (g 19 i.toNat))], [], pg_up (pg_up (rm (pg_up (pg_up g 0 15 (mt_x s (g 2 ((3 * j).toNat)) (Int.tmod i n) (Int.tdiv i n))) 0 16 (mt_y s (g 2 ((3 * j).toNat)) (Int.tmod i n) (Int.tdiv i n))) s n) 19 i.toNat (g 19 i.toNat)) 19 ((mt_tg s n (g 2 ((3 * j).toNat)) (g 2 (((3 * j) + 1).toNat)) (g 2 (((3 * j) + 2).toNat)) (Int.tmod i n) (Int.tdiv i n)).toNat) (g 19 i.toNat))) rfl ⟨⟨by omega, by omega⟩, ⟨by omega, by omega⟩⟩ ?_
              rw [rm_upq (q := 19) (by decide), rm_upq (q := 19) (by decide)]
              refine pg_pick [0, 1, 2, 3] rfl ?_
              refine ih _ _ _ (by omega) (by omega) (rf_q (rf_q (rf_0 (rf_0 hf (by decide) _) (by decide) _) (by decide) (by decide) _ _) (by decide) (by decide) _ _) ?_
              have hst := ri_PI_s hn (by omega) (by omega) hP (low := (g 19 i.toNat)) (e' := 0) (by omega) (by omega) (by omega)
              have eF : (pg_up (pg_up (pg_up (pg_up g 0 15 (mt_x s (g 2 ((3 * j).toNat)) (Int.tmod i n) (Int.tdiv i n))) 0 16 (mt_y s (g 2 ((3 * j).toNat)) (Int.tmod i n) (Int.tdiv i n))) 19 i.toNat (g 19 i.toNat)) 19 ((mt_tg s n (g 2 ((3 * j).toNat)) (g 2 (((3 * j) + 1).toNat)) (g 2 (((3 * j) + 2).toNat)) (Int.tmod i n) (Int.tdiv i n)).toNat) (g 19 i.toNat)) 19 = (fun k => if k = (ri_gm g0 s n j i).toNat then (g 19 i.toNat) else if k = i.toNat then (g 19 i.toNat) else g 19 k) := by
                funext k
                rw [pg_up_at, pg_up_at, epm]
                rfl
              rw [eF]
              exact hst
            · refine pg_go 15 (L := [0 ≤ i ∧ i < (144 : Int), 0 ≤ (mt_tg s n (g 2 ((3 * j).toNat)) (g 2 (((3 * j) + 1).toNat)) (g 2 (((3 * j) + 2).toNat)) (Int.tmod i n) (Int.tdiv i n)) ∧ (mt_tg s n (g 2 ((3 * j).toNat)) (g 2 (((3 * j) + 1).toNat)) (g 2 (((3 * j) + 2).toNat)) (Int.tmod i n) (Int.tdiv i n)) < (144 : Int)]) (st' := (48, [(0, .inr (.inr 0)), (1, .inl 1), (2, .inl j), (3, .inl (i + 1)), (4, .inl (mt_tg s n (g 2 ((3 * j).toNat)) (g 2 (((3 * j) + 1).toNat)) (g 2 (((3 * j) + 2).toNat)) (Int.tmod i n) (Int.tdiv i n))), (5, .inl (g 19 i.toNat))], [], pg_up (pg_up (rm (pg_up (pg_up g 0 15 (mt_x s (g 2 ((3 * j).toNat)) (Int.tmod i n) (Int.tdiv i n))) 0 16 (mt_y s (g 2 ((3 * j).toNat)) (Int.tmod i n) (Int.tdiv i n))) s n) 19 i.toNat (g 19 i.toNat)) 19 ((mt_tg s n (g 2 ((3 * j).toNat)) (g 2 (((3 * j) + 1).toNat)) (g 2 (((3 * j) + 2).toNat)) (Int.tmod i n) (Int.tdiv i n)).toNat) (g 19 i.toNat))) rfl ⟨⟨by omega, by omega⟩, ⟨by omega, by omega⟩⟩ ?_
              rw [rm_upq (q := 19) (by decide), rm_upq (q := 19) (by decide)]
              refine pg_pick [0, 1, 2, 3] rfl ?_
              refine ih _ _ _ (by omega) (by omega) (rf_q (rf_q (rf_0 (rf_0 hf (by decide) _) (by decide) _) (by decide) (by decide) _ _) (by decide) (by decide) _ _) ?_
              have hst := ri_PI_s hn (by omega) (by omega) hP (low := (g 19 i.toNat)) (e' := 1) (by omega) (by omega) (by omega)
              have eF : (pg_up (pg_up (pg_up (pg_up g 0 15 (mt_x s (g 2 ((3 * j).toNat)) (Int.tmod i n) (Int.tdiv i n))) 0 16 (mt_y s (g 2 ((3 * j).toNat)) (Int.tmod i n) (Int.tdiv i n))) 19 i.toNat (g 19 i.toNat)) 19 ((mt_tg s n (g 2 ((3 * j).toNat)) (g 2 (((3 * j) + 1).toNat)) (g 2 (((3 * j) + 2).toNat)) (Int.tmod i n) (Int.tdiv i n)).toNat) (g 19 i.toNat)) 19 = (fun k => if k = (ri_gm g0 s n j i).toNat then (g 19 i.toNat) else if k = i.toNat then (g 19 i.toNat) else g 19 k) := by
                funext k
                rw [pg_up_at, pg_up_at, epm]
                rfl
              rw [eF]
              exact hst
set_option maxRecDepth 20000 in
set_option maxHeartbeats 4000000 in
theorem re_sp_g {g0 : pg_H} {s n : Int} (hB0 : rm_B g0 s n) (hC0 : ri_C g0) (hG0 : ri_G g0 s n) {lp0 : Nat → Int} (hK : ∀ (g2 : pg_H) (e2 : Int), rf [19] [15, 16] g0 g2 → ri_PI g0 s n (g2 19) lp0 e2 (g0 0 3) 0 → pg_Good false pm_T_spread (fun r h' => ∃ (g' : pg_H) (lp : Nat → Int), h' = rm g' s n ∧ rf [1, 19] [3, 7, 8, 15, 16] g0 g' ∧ ri_lp g0 s n lp ∧ ri_lf g0 s n lp ∧ (∀ k : Nat, (k : Int) < n * n → g' 1 k = g0 1 (lp k).toNat) ∧ (∀ k : Nat, n * n ≤ (k : Int) → g' 1 k = g0 1 k) ∧ g' 0 3 = 0 ∧ g' 0 7 = 0 ∧ g' 0 8 = 0 ∧ r = some (.inl (pg_cn (fun k => g0 1 k ≠ g0 1 (lp k).toNat) (n * n).toNat))) (30, [(0, .inr (.inr 0)), (1, .inl e2)], [], rm g2 s n)) : ∀ (d : Nat) (g : pg_H) (e j : Int) (hd : j + (d : Int) = g0 0 3) (hj : 0 ≤ j) (hf : rf [19] [15, 16] g0 g) (hP : ri_PI g0 s n (g 19) lp0 e j 0), pg_Good false pm_T_spread (fun r h' => ∃ (g' : pg_H) (lp : Nat → Int), h' = rm g' s n ∧ rf [1, 19] [3, 7, 8, 15, 16] g0 g' ∧ ri_lp g0 s n lp ∧ ri_lf g0 s n lp ∧ (∀ k : Nat, (k : Int) < n * n → g' 1 k = g0 1 (lp k).toNat) ∧ (∀ k : Nat, n * n ≤ (k : Int) → g' 1 k = g0 1 k) ∧ g' 0 3 = 0 ∧ g' 0 7 = 0 ∧ g' 0 8 = 0 ∧ r = some (.inl (pg_cn (fun k => g0 1 k ≠ g0 1 (lp k).toNat) (n * n).toNat))) (38, [(0, .inr (.inr 0)), (1, .inl e), (2, .inl j)], [], rm g s n) := by
  intro d
  induction d with
  | zero =>
    intro g e j hd hj hf hP
    have hB := rm_B_fr hB0 hf (by decide)
    obtain ⟨hs, hn, -⟩ := id hB
    obtain ⟨hn1, hn2⟩ := id hn
    have hr := mt_rd_or hs
    have hnn := mt_nn hn1 hn2
    have hg3 := hG0.1
    have e03 : g 0 3 = g0 0 3 := hf.2 3 (by decide)
    refine pg_br 3 (L := []) (P := pg_inR j ∧ pg_inR (g 0 3)) (c := (g 0 3) ≤ j) (st1 := (203, [(0, .inr (.inr 0)), (1, .inl e), (2, .inl j)], [], rm g s n)) (st2 := (46, [(0, .inr (.inr 0)), (1, .inl e), (2, .inl j)], [], rm g s n)) rfl trivial ⟨⟨by omega, by omega⟩, ⟨by omega, by omega⟩⟩ (fun c_43_1 => ?_) (fun c_43_1 => ?_)
    · refine pg_go 1 (L := []) (st' := (30, [(0, .inr (.inr 0)), (1, .inl e), (2, .inl j)], [], rm g s n)) rfl trivial ?_
      refine pg_pick [0, 1] rfl ?_
      rw [show j = g0 0 3 by omega] at hP
      exact hK _ _ hf hP
    · exact (by exfalso; omega)
  | succ d ih =>
    intro g e j hd hj hf hP
    have hB := rm_B_fr hB0 hf (by decide)
    obtain ⟨hs, hn, -⟩ := id hB
    obtain ⟨hn1, hn2⟩ := id hn
    have hr := mt_rd_or hs
    have hnn := mt_nn hn1 hn2
    have hg3 := hG0.1
    have e03 : g 0 3 = g0 0 3 := hf.2 3 (by decide)
    refine pg_br 3 (L := []) (P := pg_inR j ∧ pg_inR (g 0 3)) (c := (g 0 3) ≤ j) (st1 := (203, [(0, .inr (.inr 0)), (1, .inl e), (2, .inl j)], [], rm g s n)) (st2 := (46, [(0, .inr (.inr 0)), (1, .inl e), (2, .inl j)], [], rm g s n)) rfl trivial ⟨⟨by omega, by omega⟩, ⟨by omega, by omega⟩⟩ (fun c_43_2 => ?_) (fun c_43_2 => ?_)
    · exact (by exfalso; omega)
    · refine pg_go 2 (L := []) (st' := (48, [(0, .inr (.inr 0)), (1, .inl e), (2, .inl j), (3, .inl 0)], [], rm g s n)) rfl trivial ?_
      exact re_sp_p hB0 hC0 hG0 (lp0 := lp0) (j := j) (by omega) (fun g2 e2 k1 k2 => ih g2 e2 _ (by omega) (by omega) k1 k2) (n * n).toNat g e 0 (by omega) (by omega) hf hP
set_option maxRecDepth 20000 in
set_option maxHeartbeats 4000000 in
theorem re_sp_w {g0 : pg_H} {s n : Int} (hB0 : rm_B g0 s n) (hC0 : ri_C g0) (hG0 : ri_G g0 s n) : ∀ (d : Nat) (g : pg_H) (e : Int) (hd : e = 1 → pg_sm (g 19) (n * n).toNat < (d : Int)) (hf : rf [19] [15, 16] g0 g) (hlp : ri_lp g0 s n (g 19)) (hE : (e = 0 ∧ ri_lf g0 s n (g 19)) ∨ e = 1), pg_Good false pm_T_spread (fun r h' => ∃ (g' : pg_H) (lp : Nat → Int), h' = rm g' s n ∧ rf [1, 19] [3, 7, 8, 15, 16] g0 g' ∧ ri_lp g0 s n lp ∧ ri_lf g0 s n lp ∧ (∀ k : Nat, (k : Int) < n * n → g' 1 k = g0 1 (lp k).toNat) ∧ (∀ k : Nat, n * n ≤ (k : Int) → g' 1 k = g0 1 k) ∧ g' 0 3 = 0 ∧ g' 0 7 = 0 ∧ g' 0 8 = 0 ∧ r = some (.inl (pg_cn (fun k => g0 1 k ≠ g0 1 (lp k).toNat) (n * n).toNat))) (30, [(0, .inr (.inr 0)), (1, .inl e)], [], rm g s n) := by
  intro d
  induction d with
  | zero =>
    intro g e hd hf hlp hE
    have hB := rm_B_fr hB0 hf (by decide)
    obtain ⟨hs, hn, -⟩ := id hB
    obtain ⟨hn1, hn2⟩ := id hn
    have hr := mt_rd_or hs
    have hnn := mt_nn hn1 hn2
    have hg3 := hG0.1
    have hsm := pg_sm_bd (f := g 19) (M := 144) (n * n).toNat (fun k hk => by have := hlp.1 k (by omega); omega)
    refine pg_br 1 (L := []) (P := pg_inR e) (c := e = 0) (st1 := (206, [(0, .inr (.inr 0)), (1, .inl e)], [], rm g s n)) (st2 := (34, [(0, .inr (.inr 0)), (1, .inl e)], [], rm g s n)) rfl trivial ⟨by omega, by omega⟩ (fun c_31_1 => ?_) (fun c_31_1 => ?_)
    · refine pg_go 10 (L := []) (st' := (220, [(0, .inr (.inr 0)), (1, .inl e), (2, .inl 0), (3, .inl ((n * n) - 1))], [], rm g s n)) rfl trivial ?_
      have hfix : ri_lf g0 s n (g 19) := by
        rcases hE with h1 | h1
        · exact h1.2
        · exfalso; omega
      refine re_sp_c hB0 hC0 hG0 hf hlp hfix (n * n).toNat g 0 _ (by omega) (by omega) (by omega) (rf_rf _ _ _) (fun k hk => ?_) (fun k hk => ?_) ?_
      · rw [if_neg (by omega), hf.1 1 (by decide) (by decide)]
      · rw [hf.1 1 (by decide) (by decide)]
      · rw [show n * n - 1 + 1 = n * n by omega, Int.sub_self]
    · exact (by exfalso; omega)
  | succ d ih =>
    intro g e hd hf hlp hE
    have hB := rm_B_fr hB0 hf (by decide)
    obtain ⟨hs, hn, -⟩ := id hB
    obtain ⟨hn1, hn2⟩ := id hn
    have hr := mt_rd_or hs
    have hnn := mt_nn hn1 hn2
    have hg3 := hG0.1
    have hsm := pg_sm_bd (f := g 19) (M := 144) (n * n).toNat (fun k hk => by have := hlp.1 k (by omega); omega)
    refine pg_br 1 (L := []) (P := pg_inR e) (c := e = 0) (st1 := (206, [(0, .inr (.inr 0)), (1, .inl e)], [], rm g s n)) (st2 := (34, [(0, .inr (.inr 0)), (1, .inl e)], [], rm g s n)) rfl trivial ⟨by omega, by omega⟩ (fun c_31_2 => ?_) (fun c_31_2 => ?_)
    · refine pg_go 10 (L := []) (st' := (220, [(0, .inr (.inr 0)), (1, .inl e), (2, .inl 0), (3, .inl ((n * n) - 1))], [], rm g s n)) rfl trivial ?_
      have hfix : ri_lf g0 s n (g 19) := by
        rcases hE with h1 | h1
        · exact h1.2
        · exfalso; omega
      refine re_sp_c hB0 hC0 hG0 hf hlp hfix (n * n).toNat g 0 _ (by omega) (by omega) (by omega) (rf_rf _ _ _) (fun k hk => ?_) (fun k hk => ?_) ?_
      · rw [if_neg (by omega), hf.1 1 (by decide) (by decide)]
      · rw [hf.1 1 (by decide) (by decide)]
      · rw [show n * n - 1 + 1 = n * n by omega, Int.sub_self]
    · refine pg_go 4 (L := []) (st' := (38, [(0, .inr (.inr 0)), (1, .inl 0), (2, .inl 0)], [], rm g s n)) rfl trivial ?_
      refine re_sp_g hB0 hC0 hG0 (lp0 := g 19) ?_ (g0 0 3).toNat g 0 0 (by omega) (by omega) hf ⟨hlp, Or.inl ⟨rfl, fun k _ => rfl, fun j' i' k1 k2 k3 k4 => by omega⟩⟩
      intro g2 e2 k1 k2
      refine ih g2 e2 (fun h1 => ?_) k1 k2.1 ?_
      · rcases k2.2 with h2 | h2
        · omega
        · have h3 := hd (by omega); omega
      · rcases k2.2 with h2 | h2
        · exact Or.inl ⟨h2.1, fun j i k3 k4 k5 k6 => h2.2.2 j i k3 k5 k6 (Or.inl k4)⟩
        · exact Or.inr h2.1
set_option maxRecDepth 20000 in
set_option maxHeartbeats 4000000 in
theorem re_sp_i {g0 : pg_H} {s n : Int} (hB0 : rm_B g0 s n) (hC0 : ri_C g0) (hG0 : ri_G g0 s n) : ∀ (d : Nat) (g : pg_H) (i : Int) (hd : i + (d : Int) = n * n) (hi : 0 ≤ i) (hf : rf [19] [15, 16] g0 g) (hI : ∀ k : Nat, (k : Int) < i → g 19 k = k), pg_Good false pm_T_spread (fun r h' => ∃ (g' : pg_H) (lp : Nat → Int), h' = rm g' s n ∧ rf [1, 19] [3, 7, 8, 15, 16] g0 g' ∧ ri_lp g0 s n lp ∧ ri_lf g0 s n lp ∧ (∀ k : Nat, (k : Int) < n * n → g' 1 k = g0 1 (lp k).toNat) ∧ (∀ k : Nat, n * n ≤ (k : Int) → g' 1 k = g0 1 k) ∧ g' 0 3 = 0 ∧ g' 0 7 = 0 ∧ g' 0 8 = 0 ∧ r = some (.inl (pg_cn (fun k => g0 1 k ≠ g0 1 (lp k).toNat) (n * n).toNat))) (2, [(0, .inr (.inr 0)), (1, .inl i)], [], rm g s n) := by
  intro d
  induction d with
  | zero =>
    intro g i hd hi hf hI
    have hB := rm_B_fr hB0 hf (by decide)
    obtain ⟨hs, hn, -⟩ := id hB
    obtain ⟨hn1, hn2⟩ := id hn
    have hr := mt_rd_or hs
    have hnn := mt_nn hn1 hn2
    have hg3 := hG0.1
    refine pg_br 6 (L := []) (P := pg_inR i ∧ pg_inR (n * n)) (c := (n * n) ≤ i) (st1 := (28, [(0, .inr (.inr 0)), (1, .inl i)], [], rm g s n)) (st2 := (15, [(0, .inr (.inr 0)), (1, .inl i)], [], rm g s n)) rfl trivial ⟨⟨by omega, by omega⟩, ⟨by omega, by omega⟩⟩ (fun c_12_1 => ?_) (fun c_12_1 => ?_)
    · refine pg_go 2 (L := []) (st' := (30, [(0, .inr (.inr 0)), (1, .inl 1)], [], rm g s n)) rfl trivial ?_
      have hlp : ri_lp g0 s n (g 19) := ⟨fun k hk => by rw [hI k (by omega)]; omega, fun f hf k hk => by rw [hI k (by omega), Int.toNat_natCast]⟩
      have hsm := pg_sm_bd (f := g 19) (M := 144) (n * n).toNat (fun k hk => by have := hlp.1 k (by omega); omega)
      exact re_sp_w hB0 hC0 hG0 20737 g 1 (fun _ => by omega) hf hlp (Or.inr rfl)
    · exact (by exfalso; omega)
  | succ d ih =>
    intro g i hd hi hf hI
    have hB := rm_B_fr hB0 hf (by decide)
    obtain ⟨hs, hn, -⟩ := id hB
    obtain ⟨hn1, hn2⟩ := id hn
    have hr := mt_rd_or hs
    have hnn := mt_nn hn1 hn2
    have hg3 := hG0.1
    refine pg_br 6 (L := []) (P := pg_inR i ∧ pg_inR (n * n)) (c := (n * n) ≤ i) (st1 := (28, [(0, .inr (.inr 0)), (1, .inl i)], [], rm g s n)) (st2 := (15, [(0, .inr (.inr 0)), (1, .inl i)], [], rm g s n)) rfl trivial ⟨⟨by omega, by omega⟩, ⟨by omega, by omega⟩⟩ (fun c_12_2 => ?_) (fun c_12_2 => ?_)
    · exact (by exfalso; omega)
    · refine pg_go 7 (L := [0 ≤ i ∧ i < (144 : Int)]) (st' := (2, [(0, .inr (.inr 0)), (1, .inl (i + 1))], [], pg_up (rm g s n) 19 i.toNat i)) rfl ⟨by omega, by omega⟩ ?_
      rw [rm_upq (q := 19) (by decide)]
      refine ih _ _ (by omega) (by omega) (rf_q hf (by decide) (by decide) _ _) (fun k hk => ?_)
      rw [pg_up_at]
      split
      · omega
      · exact hI k (by omega)
theorem re_spread {g : pg_H} {s n : Int} (hB : rm_B g s n) (hC : ri_C g) (hG : ri_G g s n) : pg_Sem false pm_T_spread [.inr (.inr 0)] (rm g s n) (fun r h' => ∃ (g' : pg_H) (lp : Nat → Int), h' = rm g' s n ∧ rf [1, 19] [3, 7, 8, 15, 16] g g' ∧ ri_lp g s n lp ∧ ri_lf g s n lp ∧ (∀ k : Nat, (k : Int) < n * n → g' 1 k = g 1 (lp k).toNat) ∧ (∀ k : Nat, n * n ≤ (k : Int) → g' 1 k = g 1 k) ∧ g' 0 3 = 0 ∧ g' 0 7 = 0 ∧ g' 0 8 = 0 ∧ r = some (.inl (pg_cn (fun k => g 1 k ≠ g 1 (lp k).toNat) (n * n).toNat))) := by
  obtain ⟨hs, hn, hT⟩ := id hB
  obtain ⟨hn1, hn2⟩ := id hn
  have hr := mt_rd_or hs
  have hnn := mt_nn hn1 hn2
  refine pg_Sem_of pm_T_spread_f rfl ?_
  refine pg_go 2 (L := []) (st' := (2, [(0, .inr (.inr 0)), (1, .inl 0)], [], rm g s n)) rfl trivial ?_
  exact re_sp_i hB hC hG (n * n).toNat g 0 (by omega) (by omega) (rf_rf _ _ _) (fun k hk => absurd hk (by omega))
