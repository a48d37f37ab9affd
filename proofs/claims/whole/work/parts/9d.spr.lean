/-! spread: both the same -/
/-- what the reference's least points are -/
def gr_lpp (gm : Int → Int → Int) (c : Int) (M : Nat) (lp : Nat → Int) : Prop := (∀ i : Nat, i < M → 0 ≤ lp i ∧ lp i ≤ i) ∧ (∀ j i : Int, 0 ≤ j → j < c → 0 ≤ i → i < M → lp (gm j i).toNat = lp i.toNat) ∧ ∀ f : Nat → Nat, (∀ j i : Int, 0 ≤ j → j < c → 0 ≤ i → i < M → f (gm j i).toNat = f i.toNat) → ∀ i : Nat, i < M → f (lp i).toNat = f i
/-- moves of the points among themselves -/
def gr_gmm (gm : Int → Int → Int) (c : Int) (M : Nat) : Prop := ∀ j : Int, 0 ≤ j → j < c → (∀ i : Int, 0 ≤ i → i < M → 0 ≤ gm j i ∧ gm j i < M) ∧ ∀ i i' : Int, 0 ≤ i → i < M → 0 ≤ i' → i' < M → gm j i = gm j i' → i = i'
section
variable {gm : Int → Int → Int} {c : Int} {M : Nat} {S : Int → List Int} {lp : Nat → Int} {c0 : Nat → Int}
theorem gr_lp2 (hg : gr_gmm gm c M) (h : gr_lpp gm c M lp) {i : Nat} (hi : i < M) : lp (lp i).toNat = lp i := by
  obtain ⟨h1, h2, h3⟩ := h
  have h4 := h3 (fun q => (lp q).toNat) (fun j i a1 a2 a3 a4 => by
    show (lp (gm j i).toNat).toNat = (lp i.toNat).toNat
    rw [h2 j i a1 a2 a3 a4]) i hi
  have b1 := h1 i hi
  have b2 := h1 (lp i).toNat (by omega)
  have h5 : (lp (lp i).toNat).toNat = (lp i).toNat := h4
  omega
theorem gr_spr (hM : M ≤ 5184) (hS : ∀ x y : Int, y ∈ S x ↔ ∃ j : Int, (0 ≤ j ∧ j < c) ∧ y = gm j x) (hg : gr_gmm gm c M) (hl : gr_lpp gm c M lp) : ∀ j : Nat, j ≤ M → ((gp_R S M c0 j).1.Nodup ∧ (∀ x : Int, x ∈ (gp_R S M c0 j).1 ↔ (0 ≤ x ∧ x < (M : Int)) ∧ lp x.toNat < j)) ∧ (∀ q : Nat, q < M → (gp_R S M c0 j).2.1 q = if lp q < j then c0 (lp q).toNat else c0 q) ∧ (gp_R S M c0 j).2.2 = pg_cn (fun q => lp q < j ∧ c0 q ≠ c0 (lp q).toNat) M := by
  intro j
  obtain ⟨l1, l2, l3⟩ := id hl
  have hSr : ∀ x, (0 ≤ x ∧ x < (M : Int)) → ∀ y ∈ S x, 0 ≤ y ∧ y < (M : Int) := by
    intro x hx y hy
    obtain ⟨i, i1, i2⟩ := (hS x y).mp hy
    rw [i2]
    exact (hg i i1.1 i1.2).1 x hx.1 hx.2
  induction j with
  | zero =>
    intro _
    refine ⟨⟨List.nodup_nil, fun x => ⟨fun hx => (by cases hx), fun hx => ?_⟩⟩, fun q hq => ?_, ?_⟩
    · exfalso
      have := (l1 x.toNat (by omega)).1
      have := hx.2
      omega
    · have := (l1 q hq).1
      rw [if_neg (by omega)]
      rfl
    · rw [pg_cn_0 (fun q hq h1 => by have := (l1 q hq).1; have := h1.1; omega)]
      rfl
  | succ j ih =>
    intro hj
    obtain ⟨⟨i1, i2⟩, i3, i4⟩ := ih (by omega)
    have hjM : j < M := by omega
    have lj := l1 j hjM
    rcases Classical.em ((j : Int) ∈ (gp_R S M c0 j).1) with h | h
    · rw [gp_R_old h]
      have hlt := ((i2 j).mp h).2
      rw [Int.toNat_natCast] at hlt
      -- no point has j as its least
      have hno : ∀ q : Nat, q < M → (lp q < ((j + 1 : Nat) : Int) ↔ lp q < (j : Int)) := by
        intro q hq
        refine ⟨fun h1 => ?_, fun h1 => by omega⟩
        rcases (show lp q < (j : Int) ∨ lp q = (j : Int) by omega) with h2 | h2
        · exact h2
        · exfalso
          have := gr_lp2 hg hl hq
          rw [h2, Int.toNat_natCast] at this
          omega
      refine ⟨⟨i1, fun x => ?_⟩, fun q hq => ?_, ?_⟩
      · rw [i2 x]
        constructor
        · rintro ⟨a, b⟩; exact ⟨a, (hno _ (by omega)).mpr b⟩
        · rintro ⟨a, b⟩; exact ⟨a, (hno _ (by omega)).mp b⟩
      · rw [i3 q hq]
        by_cases h1 : lp q < (j : Int)
        · rw [if_pos h1, if_pos ((hno q hq).mpr h1)]
        · rw [if_neg h1, if_neg (fun h2 => h1 ((hno q hq).mp h2))]
      · rw [i4]
        exact pg_cn_iff (fun q hq => by rw [hno q hq])
    · rw [gp_R_new h]
      simp only
      have hlj : lp j = j := by
        rcases (show lp j < (j : Int) ∨ lp j = (j : Int) by omega) with h1 | h1
        · exact absurd ((i2 j).mpr ⟨⟨by omega, by omega⟩, by rw [Int.toNat_natCast]; exact h1⟩) h
        · exact h1
      generalize hV : (gp_R S M c0 j).1 = V at *
      have hd : (V ++ [(j : Int)]).Nodup := by
        rw [List.nodup_append]
        refine ⟨i1, by simp, fun a ha b hb => ?_⟩
        rw [List.mem_singleton.mp hb]
        exact fun e => h (by rw [← e]; exact ha)
      have hb : ∀ x ∈ V ++ [(j : Int)], 0 ≤ x ∧ x < (M : Int) := by
        intro x hx
        rcases List.mem_append.mp hx with h1 | h1
        · exact ((i2 x).mp h1).1
        · rw [List.mem_singleton.mp h1]; omega
      have hlen := list_len_le _ hd hb
      have hcb := pg_cn_bd (fun p => (p : Int) ∈ V ++ [(j : Int)]) M
      have hl1 : (V ++ [(j : Int)]).length = V.length + 1 := by simp
      have hlpS : ∀ x y : Int, (0 ≤ x ∧ x < (M : Int)) → y ∈ S x → lp y.toNat = lp x.toNat := by
        intro x y hx hy
        obtain ⟨i, k1, k2⟩ := (hS x y).mp hy
        rw [k2]
        exact l2 i x k1.1 k1.2 hx.1 hx.2
      generalize hV' : bf S (5185 - (V ++ [(j : Int)]).length) ((V ++ [(j : Int)]).length - 1) (V ++ [(j : Int)]) = V' at *
      have hnd : V'.Nodup := by rw [← hV']; exact bf_nd _ _ _ hd
      have hsup : ∀ x ∈ V ++ [(j : Int)], x ∈ V' := fun x hx => by rw [← hV']; exact bf_sup _ _ _ _ hx
      have hin : ∀ x ∈ V', (0 ≤ x ∧ x < (M : Int)) ∧ lp x.toNat < ((j + 1 : Nat) : Int) := by
        rw [← hV']
        refine bf_ind (P := fun x => (0 ≤ x ∧ x < (M : Int)) ∧ lp x.toNat < ((j + 1 : Nat) : Int)) (fun x hx y hy => ⟨hSr x hx.1 y hy, by rw [hlpS x y hx.1 hy]; exact hx.2⟩) _ _ _ (fun x hx => ?_)
        rcases List.mem_append.mp hx with h1 | h1
        · have := (i2 x).mp h1
          exact ⟨this.1, by omega⟩
        · rw [List.mem_singleton.mp h1, Int.toNat_natCast]
          exact ⟨by omega, by omega⟩
      have hcl : ∀ x ∈ V', ∀ y ∈ S x, y ∈ V' := by
        intro x hx y hy
        obtain ⟨i, hi⟩ := List.getElem?_of_mem hx
        rw [← hV'] at hi ⊢
        rcases (show (V ++ [(j : Int)]).length - 1 ≤ i ∨ i < (V ++ [(j : Int)]).length - 1 by omega) with h1 | h1
        · exact bf_cl hSr _ _ _ (by omega) hd hb i x h1 hi y hy
        · have h2 := bf_pre (S := S) (5185 - (V ++ [(j : Int)]).length) ((V ++ [(j : Int)]).length - 1) (V ++ [(j : Int)]) i (by omega)
          rw [hi, List.getElem?_append_left (by omega)] at h2
          have h3 := List.mem_of_getElem? h2.symm
          have h4 := (i2 x).mp h3
          refine bf_sup _ _ _ _ (List.mem_append.mpr (Or.inl ((i2 y).mpr ⟨hSr x h4.1 y hy, ?_⟩)))
          rw [hlpS x y h4.1 hy]
          exact h4.2
      -- backward too
      have hbk : ∀ i x : Int, 0 ≤ i → i < c → 0 ≤ x → x < (M : Int) → (gm i x ∈ V' ↔ x ∈ V') := by
        intro i x k1 k2 k3 k4
        constructor
        · intro hx
          obtain ⟨z, z1, z2⟩ := gr_onto (B := M) (f := fun y => gm i y) (fun y hy => (hin y hy).1) (fun y hy => hcl y hy _ ((hS y _).mpr ⟨i, ⟨k1, k2⟩, rfl⟩)) (fun a ha b hb e => (hg i k1 k2).2 a b (hin a ha).1.1 (hin a ha).1.2 (hin b hb).1.1 (hin b hb).1.2 e) hx
          have := (hg i k1 k2).2 z x (hin z z1).1.1 (hin z z1).1.2 k3 k4 z2
          rw [← this]
          exact z1
        · intro hx
          exact hcl x hx _ ((hS x _).mpr ⟨i, ⟨k1, k2⟩, rfl⟩)
      have hall : ∀ q : Nat, q < M → lp q = (j : Int) → (q : Int) ∈ V' := by
        intro q hq hlq
        have hpt : ∀ z : Nat, ∃ w : Nat, (w = 1 ∧ (z : Int) ∈ V') ∨ (w = 0 ∧ ¬ (z : Int) ∈ V') := fun z => by
          rcases Classical.em ((z : Int) ∈ V') with h1 | h1
          · exact ⟨1, Or.inl ⟨rfl, h1⟩⟩
          · exact ⟨0, Or.inr ⟨rfl, h1⟩⟩
        have h1 := l3 (fun z => Classical.choose (hpt z)) (fun i x k1 k2 k3 k4 => by
          have e1 := Classical.choose_spec (hpt (gm i x).toNat)
          have e2 := Classical.choose_spec (hpt x.toNat)
          have b1 := (hg i k1 k2).1 x k3 k4
          have h2 : (((gm i x).toNat : Nat) : Int) ∈ V' ↔ ((x.toNat : Nat) : Int) ∈ V' := by
            rw [show (((gm i x).toNat : Nat) : Int) = gm i x by omega, show ((x.toNat : Nat) : Int) = x by omega]
            exact hbk i x k1 k2 k3 k4
          show Classical.choose (hpt (gm i x).toNat) = Classical.choose (hpt x.toNat)
          rcases e1 with ⟨a1, a2⟩ | ⟨a1, a2⟩
          · rcases e2 with ⟨d1, d2⟩ | ⟨d1, d2⟩
            · omega
            · exact absurd (h2.mp a2) d2
          · rcases e2 with ⟨d1, d2⟩ | ⟨d1, d2⟩
            · exact absurd (h2.mpr d2) a2
            · omega) q hq
        have h2 : Classical.choose (hpt (lp q).toNat) = Classical.choose (hpt q) := h1
        rw [hlq, Int.toNat_natCast] at h2
        have e1 := Classical.choose_spec (hpt j)
        have e2 := Classical.choose_spec (hpt q)
        have hjV := hsup j (List.mem_append.mpr (Or.inr (List.mem_singleton.mpr rfl)))
        rcases e1 with ⟨a1, a2⟩ | ⟨a1, a2⟩
        · rcases e2 with ⟨d1, d2⟩ | ⟨d1, d2⟩
          · exact d2
          · omega
        · exact absurd hjV a2
      have hmem : ∀ x : Int, x ∈ V' ↔ (0 ≤ x ∧ x < (M : Int)) ∧ lp x.toNat < ((j + 1 : Nat) : Int) := by
        intro x
        refine ⟨hin x, ?_⟩
        rintro ⟨a, b⟩
        rcases (show lp x.toNat < (j : Int) ∨ lp x.toNat = (j : Int) by omega) with h1 | h1
        · exact hsup x (List.mem_append.mpr (Or.inl ((i2 x).mpr ⟨a, h1⟩)))
        · have := hall x.toNat (by omega) h1
          rwa [show ((x.toNat : Nat) : Int) = x by omega] at this
      have hnew : ∀ q : Nat, q < M → (((q : Int) ∈ V' ∧ (q : Int) ∉ V ++ [(j : Int)]) ↔ lp q = (j : Int) ∧ q ≠ j) := by
        intro q hq
        rw [hmem q, List.mem_append, List.mem_singleton, i2 q, Int.toNat_natCast]
        constructor
        · rintro ⟨⟨-, a⟩, b⟩
          have b1 : ¬ lp q < (j : Int) := fun h1 => b (Or.inl ⟨⟨by omega, by omega⟩, h1⟩)
          exact ⟨by omega, fun h1 => b (Or.inr (by omega))⟩
        · rintro ⟨a, b⟩
          refine ⟨⟨⟨by omega, by omega⟩, by omega⟩, ?_⟩
          rintro (⟨-, d⟩ | d)
          · omega
          · omega
      have hcj : (gp_R S M c0 j).2.1 j = c0 j := by rw [i3 j hjM, if_neg (by omega)]
      refine ⟨⟨hnd, hmem⟩, fun q hq => ?_, ?_⟩
      · rcases Classical.em (lp q = (j : Int) ∧ q ≠ j) with h1 | h1
        · rw [pg_if_t ((hnew q hq).mpr h1), hcj, if_pos (by omega), h1.1, Int.toNat_natCast]
        · rw [pg_if_f (fun h2 => h1 ((hnew q hq).mp h2)), i3 q hq]
          by_cases h2 : lp q < (j : Int)
          · rw [if_pos h2, if_pos (by omega)]
          · rw [if_neg h2]
            by_cases h3 : lp q < ((j + 1 : Nat) : Int)
            · rw [if_pos h3]
              have h4 : lp q = (j : Int) := by omega
              have h5 : q = j := by
                rcases Classical.em (q = j) with h6 | h6
                · exact h6
                · exact absurd ⟨h4, h6⟩ h1
              rw [h4, Int.toNat_natCast, h5]
            · rw [if_neg h3]
      · rw [i4, pg_cn_split (fun q => lp q < ((j + 1 : Nat) : Int) ∧ c0 q ≠ c0 (lp q).toNat) (fun q => lp q < (j : Int)) M]
        congr 1
        · refine pg_cn_iff (fun q hq => ?_)
          constructor
          · rintro ⟨a, b⟩; exact ⟨⟨by omega, b⟩, a⟩
          · rintro ⟨⟨-, b⟩, a⟩; exact ⟨a, b⟩
        · refine pg_cn_iff (fun q hq => ?_)
          rw [hnew q hq, hcj, i3 q hq]
          constructor
          · rintro ⟨⟨a, b⟩, d⟩
            rw [if_neg (by omega)] at d
            refine ⟨⟨by omega, ?_⟩, by omega⟩
            rw [a, Int.toNat_natCast]
            exact d
          · rintro ⟨⟨a, b⟩, d⟩
            have h4 : lp q = (j : Int) := by omega
            rw [h4, Int.toNat_natCast] at b
            refine ⟨⟨h4, fun h5 => b (by rw [h5])⟩, ?_⟩
            rw [if_neg d]
            exact b
end
/-- spread -/
theorem gr_spread {h g : pg_H} {s n : Int} (hs : s = 0 ∨ s = 1) (hn : 1 ≤ n ∧ n ≤ 12) (hG : ri_G g s n) (e3 : h 20 4 = g 0 3) (e21 : ∀ j : Nat, (j : Int) < g 0 3 → h 21 j = mt_cd n (g 2 (3 * j)) (g 2 (3 * j + 1)) (g 2 (3 * j + 2))) {lp : Nat → Int} (h1 : ri_lp g s n lp) (h2 : ri_lf g s n lp) (he : ∀ p : Nat, (p : Int) < n * n → h 7 p = g 1 p) : (∀ q : Nat, (q : Int) < n * n → (gp_R (gp_S h s n) (n * n).toNat (h 7) (n * n).toNat).2.1 q = g 1 (lp q).toNat) ∧ (gp_R (gp_S h s n) (n * n).toNat (h 7) (n * n).toNat).2.2 = pg_cn (fun k => g 1 k ≠ g 1 (lp k).toNat) (n * n).toNat := by
  have hnn := mt_nn hn.1 hn.2
  have hgen : ∀ j : Int, 0 ≤ j → j < g 0 3 → (0 ≤ g 2 (3 * j).toNat ∧ g 2 (3 * j).toNat < 2 * mt_rd s) ∧ (0 ≤ g 2 (3 * j + 1).toNat ∧ g 2 (3 * j + 1).toNat < n) ∧ (0 ≤ g 2 (3 * j + 2).toNat ∧ g 2 (3 * j + 2).toNat < n) := by
    intro j a b
    have := hG.2 j.toNat (by omega)
    rwa [show 3 * j.toNat = (3 * j).toNat by omega, show (3 * j).toNat + 1 = (3 * j + 1).toNat by omega, show (3 * j).toNat + 2 = (3 * j + 2).toNat by omega] at this
  have hS : ∀ x y : Int, y ∈ gp_S h s n x ↔ ∃ j : Int, (0 ≤ j ∧ j < g 0 3) ∧ y = ri_gm g s n j x := by
    have hgo : ∀ (j : Nat) (x : Int), (j : Int) < g 0 3 → mt_go s n (h 21 j) x = ri_gm g s n j x := by
      intro j x hj
      have hb := hgen (j : Int) (by omega) hj
      have hcd := mt_cd_k (n := n) (k := g 2 (3 * (j : Int)).toNat) (u := g 2 (3 * (j : Int) + 1).toNat) (v := g 2 (3 * (j : Int) + 2).toNat) hn
      have e1 := e21 j hj
      rw [show 3 * j = (3 * (j : Int)).toNat by omega, show (3 * (j : Int)).toNat + 1 = (3 * (j : Int) + 1).toNat by omega, show (3 * (j : Int)).toNat + 2 = (3 * (j : Int) + 2).toNat by omega] at e1
      unfold mt_go ri_gm
      rw [e1, hcd.1, hcd.2.1, hcd.2.2, Int.emod_eq_of_lt hb.2.1.1 hb.2.1.2, Int.emod_eq_of_lt hb.2.2.1 hb.2.2.2]
    intro x y
    unfold gp_S
    rw [List.mem_map, e3]
    constructor
    · rintro ⟨j, j1, j2⟩
      have hj := List.mem_range.mp j1
      have := hG.1
      exact ⟨(j : Int), by omega, by rw [← j2]; exact hgo j x (by omega)⟩
    · rintro ⟨j, j1, j2⟩
      refine ⟨j.toNat, List.mem_range.mpr (by omega), ?_⟩
      rw [hgo j.toNat x (by omega), show ((j.toNat : Nat) : Int) = j by omega, j2]
  have hg : gr_gmm (ri_gm g s n) (g 0 3) (n * n).toNat := by
    intro j a b
    have hb := hgen j a b
    refine ⟨fun i c d => ?_, fun i i' c d c' d' e => ?_⟩
    · have := ri_gm_bd (g := g) (s := s) (j := j) (i := i) hn
      omega
    · have t1 := (gr_tgi (u := g 2 (3 * j + 1).toNat) (v := g 2 (3 * j + 2).toNat) hs hn hb.1 i ⟨c, by omega⟩).1
      have t2 := (gr_tgi (u := g 2 (3 * j + 1).toNat) (v := g 2 (3 * j + 2).toNat) hs hn hb.1 i' ⟨c', by omega⟩).1
      have e' : mt_tg s n (g 2 (3 * j).toNat) (g 2 (3 * j + 1).toNat) (g 2 (3 * j + 2).toNat) (i % n) (i / n) = mt_tg s n (g 2 (3 * j).toNat) (g 2 (3 * j + 1).toNat) (g 2 (3 * j + 2).toNat) (i' % n) (i' / n) := e
      rw [e', t2] at t1
      exact t1.symm
  have hl : gr_lpp (ri_gm g s n) (g 0 3) (n * n).toNat lp := by
    refine ⟨fun i hi => h1.1 i (by omega), fun j i a b c d => h2 j i a b c (by omega), fun f hf i hi => h1.2 f (fun j i a b c d => hf j i a b c (by omega)) i (by omega)⟩
  obtain ⟨-, r2, r3⟩ := gr_spr (c0 := h 7) (by omega) hS hg hl (n * n).toNat (Nat.le_refl _)
  have hlt : ∀ q : Nat, q < (n * n).toNat → lp q < (((n * n).toNat : Nat) : Int) := fun q hq => by
    have := h1.1 q (by omega)
    omega
  refine ⟨fun q hq => ?_, ?_⟩
  · have := h1.1 q hq
    rw [r2 q (by omega), if_pos (hlt q (by omega)), he _ (by omega)]
  · rw [r3]
    refine pg_cn_iff (fun q hq => ?_)
    have := h1.1 q (by omega)
    rw [he q (by omega), he (lp q).toNat (by omega)]
    exact ⟨fun h5 => h5.2, fun h5 => ⟨hlt q hq, h5⟩⟩
