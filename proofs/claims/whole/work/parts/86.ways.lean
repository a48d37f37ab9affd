/-! how many changes; ways -/
section
variable {col : Nat → Int} {s n k u v : Int}
theorem gr_con_sh (hn : 1 ≤ n) {x y : Int} (h : mt_sym col s n 0 x y) : mt_con col s n k (u + x) (v + y) ↔ mt_con col s n k u v := by
  have e : ∀ a b : Int, gr_C col n (a + (u + x)) (b + (v + y)) = gr_C col n (a + u) (b + v) := by
    intro a b
    have h1 := (gr_sym hn).mp h (a + u) (b + v)
    rw [(mt_x0 s _ _).1, (mt_x0 s _ _).2] at h1
    rw [h1, Int.add_assoc, Int.add_assoc]
  rw [gr_con_iff hn, gr_con_iff hn]
  unfold gr_con gr_T
  simp only [e]
theorem gr_con_mod (hn : 1 ≤ n) {u' v' : Int} (hu : u % n = u' % n) (hv : v % n = v' % n) : mt_con col s n k u v ↔ mt_con col s n k u' v' := by
  have e : ∀ a b : Int, gr_C col n (a + u) (b + v) = gr_C col n (a + u') (b + v') := by
    intro a b
    refine gr_C_mod ?_ ?_
    · rw [Int.add_emod, hu, ← Int.add_emod]
    · rw [Int.add_emod, hv, ← Int.add_emod]
  rw [gr_con_iff hn, gr_con_iff hn]
  unfold gr_con gr_T
  simp only [e]
/-- a move takes the points of the torus one to one onto themselves -/
theorem gr_tgi (hs : s = 0 ∨ s = 1) (hn : 1 ≤ n ∧ n ≤ 12) (hk : 0 ≤ k ∧ k < 2 * mt_rd s) (p : Int) (hp : 0 ≤ p ∧ p < n * n) : mt_tg s n (mt_li s k) (-mt_x s (mt_li s k) u v) (-mt_y s (mt_li s k) u v) (mt_tg s n k u v (p % n) (p / n) % n) (mt_tg s n k u v (p % n) (p / n) / n) = p ∧ mt_tg s n k u v (mt_tg s n (mt_li s k) (-mt_x s (mt_li s k) u v) (-mt_y s (mt_li s k) u v) (p % n) (p / n) % n) (mt_tg s n (mt_li s k) (-mt_x s (mt_li s k) u v) (-mt_y s (mt_li s k) u v) (p % n) (p / n) / n) = p := by
  have hx := mt_mod hn.1 p
  have hy := mt_row_bd hn.1 hp
  have hpt := mt_pt_of (p := p) hn.1
  have e : ∀ a b c d x y : Int, mt_tg s n a b c ((mt_tg s n d x y (p % n) (p / n)) % n) ((mt_tg s n d x y (p % n) (p / n)) / n) = mt_pt n ((mt_x s a (mt_x s d (p % n) (p / n) + x) (mt_y s d (p % n) (p / n) + y) + b) % n) ((mt_y s a (mt_x s d (p % n) (p / n) + x) (mt_y s d (p % n) (p / n) + y) + c) % n) := by
    intro a b c d x y
    have h1 := mt_mod hn.1 (mt_x s d (p % n) (p / n) + x)
    have h2 := mt_dm (u := (mt_y s d (p % n) (p / n) + y) % n) hn.1 h1
    have e1 : mt_tg s n d x y (p % n) (p / n) = (mt_y s d (p % n) (p / n) + y) % n * n + (mt_x s d (p % n) (p / n) + x) % n := rfl
    rw [e1, h2.1, h2.2]
    unfold mt_tg
    rw [(gr_emod s a n b c _ _).1, (gr_emod s a n b c _ _).2]
  refine ⟨?_, ?_⟩
  · rw [e, (gr_lin s (mt_li s k) _ _ _ _).1, (gr_lin s (mt_li s k) _ _ _ _).2, (gr_li hs hk _ _).2.1, (gr_li hs hk _ _).2.2, Int.add_neg_cancel_right, Int.add_neg_cancel_right, Int.emod_eq_of_lt hx.1 hx.2, Int.emod_eq_of_lt hy.1 hy.2]
    exact hpt
  · rw [e, (gr_lin s k _ _ _ _).1, (gr_lin s k _ _ _ _).2, (gr_li hs hk _ _).1.1, (gr_li hs hk _ _).1.2, (gr_neg s k _ _).1, (gr_neg s k _ _).2, (gr_li hs hk _ _).1.1, (gr_li hs hk _ _).1.2, Int.neg_add_cancel_right, Int.neg_add_cancel_right, Int.emod_eq_of_lt hx.1 hx.2, Int.emod_eq_of_lt hy.1 hy.2]
    exact hpt
theorem gr_colp (hn : 1 ≤ n) {p : Int} (hp : 0 ≤ p ∧ p < n * n) : col p.toNat = gr_C col n (p % n) (p / n) := by
  have hx := mt_mod hn p
  have hy := mt_row_bd hn hp
  rw [gr_C_at hn hx.1 hx.2 hy.1 hy.2, mt_pt_of hn]
theorem gr_coltg (hn : 1 ≤ n) {p : Int} (hp : 0 ≤ p ∧ p < n * n) : col (mt_tg s n k u v (p % n) (p / n)).toNat = gr_C col n (mt_x s k (p % n) (p / n) + u) (mt_y s k (p % n) (p / n) + v) := by
  have hx := mt_mod hn p
  have hy := mt_row_bd hn hp
  have h := gr_tg (col := col) (s := s) (k := k) (u := u) (v := v) hn (p % n) (p / n)
  rw [Int.emod_eq_of_lt hx.1 hx.2, Int.emod_eq_of_lt hy.1 hy.2] at h
  exact h
/-- a change takes a colour to one of the same share -/
theorem gr_share (hs : s = 0 ∨ s = 1) (hn : 1 ≤ n ∧ n ≤ 12) (hk : 0 ≤ k ∧ k < 2 * mt_rd s) (h : mt_con col s n k u v) {an : Int} (han : 0 ≤ an ∧ an < n * n) : pg_cn (fun p => col p = col (mt_tg s n k u v (an % n) (an / n)).toNat) (n * n).toNat = pg_cn (fun p => col p = col an.toNat) (n * n).toNat := by
  have hcon := (gr_con_iff hn.1).mp h
  have hb : ∀ (k u v x y : Int), 0 ≤ mt_tg s n k u v x y ∧ mt_tg s n k u v x y < n * n := fun k u v x y => ⟨(mt_tg_bd hn.1 hn.2).1, (mt_tg_bd hn.1 hn.2).2.1⟩
  refine (pg_cn_bij (f := fun p => (mt_tg s n k u v ((p : Int) % n) ((p : Int) / n)).toNat) (g := fun p => (mt_tg s n (mt_li s k) (-mt_x s (mt_li s k) u v) (-mt_y s (mt_li s k) u v) ((p : Int) % n) ((p : Int) / n)).toNat) (fun m hm hp => ?_) (fun m hm hp => ?_)).symm
  · have h1 := hb k u v ((m : Int) % n) ((m : Int) / n)
    have hm1 : 0 ≤ (m : Int) ∧ (m : Int) < n * n := by omega
    refine ⟨by show (mt_tg s n k u v ((m : Int) % n) ((m : Int) / n)).toNat < _; omega, ?_, ?_⟩
    · rw [gr_coltg (col := col) hn.1 hm1, gr_coltg (col := col) hn.1 han]
      refine hcon ((m : Int) % n, (m : Int) / n) (an % n, an / n) ?_
      show gr_C col n _ _ = gr_C col n _ _
      rw [← gr_colp (col := col) hn.1 hm1, ← gr_colp (col := col) hn.1 han]
      exact hp
    · have h2 := (gr_tgi (u := u) (v := v) hs hn hk (m : Int) hm1).1
      show (mt_tg s n (mt_li s k) _ _ ((((mt_tg s n k u v ((m : Int) % n) ((m : Int) / n)).toNat : Nat) : Int) % n) ((((mt_tg s n k u v ((m : Int) % n) ((m : Int) / n)).toNat : Nat) : Int) / n)).toNat = m
      rw [show (((mt_tg s n k u v ((m : Int) % n) ((m : Int) / n)).toNat : Nat) : Int) = mt_tg s n k u v ((m : Int) % n) ((m : Int) / n) by omega, h2]
      rfl
  · have hm1 : 0 ≤ (m : Int) ∧ (m : Int) < n * n := by omega
    have h2 := (gr_tgi (u := u) (v := v) hs hn hk (m : Int) hm1).2
    generalize hq : mt_tg s n (mt_li s k) (-mt_x s (mt_li s k) u v) (-mt_y s (mt_li s k) u v) ((m : Int) % n) ((m : Int) / n) = q at *
    have h1 : 0 ≤ q ∧ q < n * n := by rw [← hq]; exact hb _ _ _ _ _
    have eq1 : ((q.toNat : Nat) : Int) = q := by omega
    refine ⟨by omega, ?_, ?_⟩
    · show col q.toNat = col an.toNat
      rw [gr_colp (col := col) hn.1 h1, gr_colp (col := col) hn.1 han]
      refine gr_con_inj hs hn.1 hk hcon (q % n, q / n) (an % n, an / n) ?_
      show gr_C col n (mt_x s k (q % n) (q / n) + u) (mt_y s k (q % n) (q / n) + v) = gr_C col n (mt_x s k (an % n) (an / n) + u) (mt_y s k (an % n) (an / n) + v)
      rw [← gr_coltg (col := col) hn.1 h1, ← gr_coltg (col := col) hn.1 han, h2]
      exact hp
    · rw [eq1, h2]
      rfl
end
theorem pg_sm_mul' (f : Nat → Int) (c : Int) (m : Nat) : pg_sm (fun k => f k * c) m = pg_sm f m * c := by
  induction m with
  | zero => exact (Int.zero_mul _).symm
  | succ m ih => simp only [pg_sm]; rw [ih, Int.add_mul]
/-- how many changes -/
theorem gr_c9 {h : pg_H} {col : Nat → Int} {s n z : Int} (hs : s = 0 ∨ s = 1) (hn : 1 ≤ n ∧ n ≤ 12) (hD : gr_D h s n (mt_sym col s n)) (hC : cp_C h) (hS : cp_S h n) (he : ∀ p : Nat, (p : Int) < n * n → h 7 p = col p) (hV : sy_V h s n z) : pg_cn (fun m => mt_chg col s n ((m : Int) / (n * n)) ((m : Int) / n % n) ((m : Int) % n)) (2 * mt_rd s * (n * n)).toNat = z := by
  have hr := mt_rd_or hs
  have hnn := mt_nn hn.1 hn.2
  obtain ⟨an, han, hz⟩ := hV
  have hcc : ∀ k u v : Int, mt_con (h 7) s n k u v ↔ mt_con col s n k u v := by
    intro k u v
    have e2 : ∀ x y : Int, gr_C (h 7) n x y = gr_C col n x y := fun x y => by
      have := mt_pt_bd hn.1 hn.2 (mt_mod hn.1 x) (mt_mod hn.1 y)
      exact he _ (by omega)
    rw [gr_con_iff hn.1, gr_con_iff hn.1]
    unfold gr_con
    simp only [e2]
  have h1 := gr_rows hn.1 (fun k u v => mt_chg col s n k u v) (2 * mt_rd s).toNat
  rw [gr_N hs hn.1, h1, hz, ← pg_sm_mul' _ (sy_sh h n)]
  refine pg_sm_eq (fun k hk => ?_)
  have hk1 : (0 : Int) ≤ (k : Int) ∧ (k : Int) < 2 * mt_rd s := by omega
  have e1 : pg_cn (fun t : Nat => mt_chg col s n (k : Int) ((t : Int) / n) ((t : Int) % n)) (n * n).toNat = pg_cn (fun t : Nat => mt_con col s n (k : Int) ((t : Int) / n) ((t : Int) % n)) (n * n).toNat := pg_cn_iff (fun t _ => gr_chg hs hn hk1)
  rw [e1, gr_fold2 hD.2.1 (Q := fun u v => mt_con col s n (k : Int) u v) (fun u v x y hxy => gr_con_sh hn.1 hxy), Int.mul_comm]
  show _ * sy_sh h n = _ * sy_sh h n
  congr 1
  refine pg_cn_iff (fun m _ => ?_)
  unfold sy_Cm
  rw [hcc]
  refine ⟨fun hm => ⟨?_, hm⟩, fun hm => hm.2⟩
  have b1 := hC an.toNat (by omega)
  have b2 := mt_tg_bd (s := s) (k := (k : Int)) (u := (m : Int) / h 10 6) (v := (m : Int) % h 10 6) (x := an % n) (y := an / n) hn.1 hn.2
  have b3 := hC (mt_tg s n (k : Int) ((m : Int) / h 10 6) ((m : Int) % h 10 6) (an % n) (an / n)).toNat (by omega)
  rw [hS _ (by omega), hS _ (by omega)]
  have e3 := gr_share hs hn hk1 ((hcc _ _ _).mpr hm) han
  rw [show (((h 7 (mt_tg s n (k : Int) ((m : Int) / h 10 6) ((m : Int) % h 10 6) (an % n) (an / n)).toNat).toNat : Nat) : Int) = h 7 (mt_tg s n (k : Int) ((m : Int) / h 10 6) ((m : Int) % h 10 6) (an % n) (an / n)).toNat by omega, show (((h 7 an.toNat).toNat : Nat) : Int) = h 7 an.toNat by omega]
  exact e3
