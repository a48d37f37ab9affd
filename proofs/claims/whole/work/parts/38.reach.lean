/-! Reached as a list; going through what is reached -/
def bf_add (L : List Int) (p : Int) : List Int := if p ∈ L then L else L ++ [p]
def bf_ads (L : List Int) : List Int → List Int
  | [] => L
  | p :: r => bf_ads (bf_add L p) r
/-- S: what is reached from one; from place j on, F steps at most -/
def bf (S : Int → List Int) : Nat → Nat → List Int → List Int
  | 0, _, L => L
  | F + 1, j, L => match L[j]? with
    | some x => bf S F (j + 1) (bf_ads L (S x))
    | none => L
theorem bf_add_mem {L : List Int} {p x : Int} : x ∈ bf_add L p ↔ (x ∈ L ∨ x = p) := by
  unfold bf_add
  split
  · rename_i h
    refine ⟨Or.inl, fun hx => ?_⟩
    rcases hx with hx | rfl
    · exact hx
    · exact h
  · simp
theorem bf_ads_app (L : List Int) (A B : List Int) : bf_ads L (A ++ B) = bf_ads (bf_ads L A) B := by
  induction A generalizing L with
  | nil => rfl
  | cons a r ih => exact ih (bf_add L a)
def rc_L (h : pg_H) (L : List Int) : Prop := rc_I h ∧ h 1 2 = L.length ∧ (∀ (j : Nat) (x : Int), L[j]? = some x → h 3 j = x) ∧ ∀ p : Int, 0 ≤ p → p < 5184 → (h 2 p.toNat = 1 ↔ p ∈ L)
theorem rc_L_fr {h g : pg_H} {L : List Int} {cs : List Nat} (hf : pg_fr cs h g) (h1 : 1 ∉ cs) (h2 : 2 ∉ cs) (h3 : 3 ∉ cs) (hL : rc_L h L) : rc_L g L := by
  unfold rc_L rc_I at *
  rw [hf 1 h1, hf 2 h2, hf 3 h3]
  exact hL
theorem rc_L_in {h : pg_H} {L : List Int} (hL : rc_L h L) {x : Int} (hx : x ∈ L) : 0 ≤ x ∧ x < 5184 := by
  obtain ⟨j, hj⟩ := List.getElem?_of_mem hx
  have h1 := hL.2.2.1 j x hj
  have h2 : j < L.length := (List.getElem?_eq_some_iff.mp hj).1
  have h3 := hL.1.2.2.1 j (by rw [hL.2.1]; omega)
  rw [h1] at h3
  exact ⟨h3.1, h3.2.1⟩
theorem rl_add {h : pg_H} {L : List Int} (hL : rc_L h L) (p : Int) (hp : 0 ≤ p ∧ p < 5184) : pg_Sem true pm_R_add [.inr (.inr 1), .inl p] h (fun r h' => r = some (.inl (pg_b (p ∉ L))) ∧ rc_L h' (bf_add L p) ∧ pg_fr [1, 2, 3] h h') := by
  refine pg_Sem_mono (cr_add hL.1 p hp) ?_
  obtain ⟨hI, hn, hO, hm⟩ := id hL
  rintro r h' (⟨e1, e2, e3⟩ | ⟨e1, e2, e3⟩)
  · have hin := (hm p hp.1 hp.2).mp e1
    rw [e2, e3, pg_b_f (fun hz => hz hin)]
    refine ⟨rfl, ?_, pg_fr_rf _ _⟩
    unfold bf_add
    rw [if_pos hin]
    exact hL
  · have hin : p ∉ L := fun hz => by
      have := (hm p hp.1 hp.2).mpr hz
      omega
    rw [e2, e3, pg_b_t hin]
    refine ⟨rfl, ⟨rc_add hI hp e1, ?_, ?_, ?_⟩, pg_fr_up (pg_fr_up (pg_fr_up (pg_fr_rf _ _) (by decide) _ _) (by decide) _ _) (by decide) _ _⟩
    · show h 1 2 + 1 = _
      unfold bf_add
      rw [if_neg hin, hn]
      simp
    · intro j x hj
      rw [pg_up_ne _ _ _ (by decide), pg_up_at, pg_up_ne _ _ _ (by decide)]
      unfold bf_add at hj
      rw [if_neg hin] at hj
      by_cases hc : j = (h 1 2).toNat
      · rw [if_pos hc]
        rw [hc, hn, List.getElem?_append_right (by omega)] at hj
        simp at hj
        exact hj
      · rw [if_neg hc]
        have hjl : j < (L ++ [p]).length := (List.getElem?_eq_some_iff.mp hj).1
        simp at hjl
        rw [List.getElem?_append_left (by omega)] at hj
        exact hO j x hj
    · intro q h1 h2
      rw [pg_up_ne _ _ _ (by decide), pg_up_ne _ _ _ (by decide), pg_up_at, bf_add_mem]
      by_cases hc : q.toNat = p.toNat
      · rw [if_pos hc]
        exact ⟨fun _ => Or.inr (by omega), fun _ => rfl⟩
      · rw [if_neg hc, hm q h1 h2]
        refine ⟨Or.inl, fun hz => ?_⟩
        rcases hz with hz | hz
        · exact hz
        · omega
theorem rl_has {h : pg_H} {L : List Int} (hL : rc_L h L) (p : Int) (hp : 0 ≤ p ∧ p < 5184) : pg_Sem true pm_R_has [.inr (.inr 1), .inl p] h (fun r h' => r = some (.inl (pg_b (p ∈ L))) ∧ h' = h) := by
  refine pg_Sem_mono (cr_has hL.1 p ⟨by omega, by omega⟩) ?_
  rintro r h' ⟨e1, e2⟩
  refine ⟨?_, e2⟩
  rw [e1, pg_b_iff (show (0 ≤ p ∧ p < 5184 ∧ h 2 p.toNat = 1) ↔ p ∈ L from ?_)]
  rw [← hL.2.2.2 p hp.1 hp.2]
  exact ⟨fun hz => hz.2.2, fun hz => ⟨hp.1, hp.2, hz⟩⟩
theorem rl_at {h : pg_H} {L : List Int} (hL : rc_L h L) (j x : Int) (hj : 0 ≤ j) (hx : L[j.toNat]? = some x) : pg_Sem true pm_R_at [.inr (.inr 1), .inl j] h (fun r h' => r = some (.inl x) ∧ h' = h) := by
  have h1 : j.toNat < L.length := (List.getElem?_eq_some_iff.mp hx).1
  refine pg_Sem_mono (cr_at hL.1 j ⟨hj, by rw [hL.2.1]; omega⟩) ?_
  rintro r h' ⟨e1, e2⟩
  rw [hL.2.2.1 _ _ hx] at e1
  exact ⟨e1, e2⟩
theorem rl_clear {h : pg_H} (hI : rc_I h) : pg_Sem true pm_R_clear [.inr (.inr 1)] h (fun r h' => r = none ∧ rc_L h' [] ∧ pg_fr [1, 2] h h') := by
  refine pg_Sem_mono (cr_clear hI) ?_
  rintro r h' ⟨e1, e2, e3, e4⟩
  refine ⟨e1, ⟨⟨⟨by omega, ?_⟩, fun p hp => Or.inl (e4 p hp), fun j hj => by omega, fun p hp hz => by have := e4 p hp; omega⟩, e3, fun j x hj => by simp at hj, fun p h1 h2 => ?_⟩, e2⟩
  · rw [e3, pg_cn_0 (fun j hj => by have := e4 j hj; omega)]
  · have := e4 p.toNat (by omega)
    simp
    omega
/-- Halves: what take does; pr: the product -/
def hv_S (pr : Int → Int → Int) (G : List Int) (x : Int) : List Int := G.map (pr x)
def hv_take (pr : Int → Int → Int) (GL : List Int × List Int) (sq : Int) : List Int × List Int := if sq ∈ GL.2 ∨ 11 ≤ GL.1.length then GL else (GL.1 ++ [sq], bf (hv_S pr (GL.1 ++ [sq])) 5184 0 GL.2)
/-- the object holds needed G and group L of moves -/
def hv_H (h : pg_H) (s n : Int) (G L : List Int) : Prop := rc_L h L ∧ h 18 4 = G.length ∧ G.length ≤ 11 ∧ (∀ (j : Nat) (x : Int), G[j]? = some x → h 19 j = x) ∧ (∀ x ∈ G, 0 ≤ x ∧ x < 2 * mt_rd s * (n * n)) ∧ ∀ x ∈ L, 0 ≤ x ∧ x < 2 * mt_rd s * (n * n)
theorem mt_pr_bd {s n a b : Int} (hs : s = 0 ∨ s = 1) (hn : 1 ≤ n ∧ n ≤ 12) (ha : 0 ≤ a ∧ a < 2 * mt_rd s * (n * n)) (hb : 0 ≤ b ∧ b < 2 * mt_rd s * (n * n)) : 0 ≤ mt_pr s n a b ∧ mt_pr s n a b < 2 * mt_rd s * (n * n) := by
  have a1 := mt_kof hn.1 ha
  have b1 := mt_kof hn.1 hb
  have hl := mt_lp_bd hs a1 b1
  unfold mt_pr mt_cd
  generalize mt_lp s (a / (n * n)) (b / (n * n)) = k at *
  generalize mt_x s (a / (n * n)) (b / n % n) (b % n) + a / n % n = u
  generalize mt_y s (a / (n * n)) (b / n % n) (b % n) + a % n = v
  have hu := mt_mod hn.1 u
  have hv := mt_mod hn.1 v
  generalize u % n = u' at *
  generalize v % n = v' at *
  have : n = 1 ∨ n = 2 ∨ n = 3 ∨ n = 4 ∨ n = 5 ∨ n = 6 ∨ n = 7 ∨ n = 8 ∨ n = 9 ∨ n = 10 ∨ n = 11 ∨ n = 12 := by omega
  rcases mt_rd_or hs with ⟨-, e⟩ | ⟨-, e⟩ <;> rcases this with rfl | rfl | rfl | rfl | rfl | rfl | rfl | rfl | rfl | rfl | rfl | rfl <;> omega
theorem mt_2rd {s n x : Int} (hs : s = 0 ∨ s = 1) (hn : 1 ≤ n ∧ n ≤ 12) (hx : 0 ≤ x ∧ x < 2 * mt_rd s * (n * n)) : 0 ≤ x ∧ x < 5184 := by
  have := mt_mv_lt hs hn.1 hn.2 hx
  omega
