/-! an instruction, in the small machine and in the machine -/
section PGS
variable {b : Bool} {M : pg_M} {Q : Option pg_V → pg_H → Prop} {p : Program} {l : Launch} {e : Env} {R : Room} {s : State} {m : MethodId} {args : Array Value} {below : List Frame} {meth : Method} {c : Code} {K : pg_K3} {D : va_G} {ad : Nat → Nat} {A : Nat → Prop} {st st' : pg_St}
theorem pg_s_i2 {f : Int → Int → Int} {g : Int32 → Int32 → Int32} (hfg : ∀ x y, pg_I (f x y) = g (pg_I x) (pg_I y)) (row : ∀ {H : Heap} {locs : List Loc} {ls : Array Slot} {rest : List Value} {x y : Int32}, W p l e R s m args below meth c H locs 0 0 (MQ below (pg_Qc b Q K D ad A) args s 0 0 A) (F0 m (st.1 + 1) ls (.int (g x y) :: rest)) → W p l e R s m args below meth c H locs 0 0 (MQ below (pg_Qc b Q K D ad A) args s 0 0 A) (F0 m st.1 ls (.int y :: .int x :: rest))) {L : List Prop} (he : pg_i2 f st = some (L, st')) (hg : pg_G b M Q p l e R s m args below meth c K D ad A st') : pg_G b M Q p l e R s m args below meth c K D ad A st := by
  obtain ⟨x, y, r, h1, rfl⟩ := pg_i2_inv he
  intro H locs ls hl hP hD hS
  rw [h1]
  refine row ?_
  rw [← hfg]
  exact hg H locs ls hl hP hD hS
theorem pg_s_i2c {f : Int → Int → Int} {g : Int32 → Int32 → Int32} (hfg : ∀ x y, pg_inR x → pg_inR y → y ≠ 0 → pg_I (f x y) = g (pg_I x) (pg_I y)) (row : ∀ {H : Heap} {locs : List Loc} {ls : Array Slot} {rest : List Value} {x y : Int32}, ¬ y = 0 → W p l e R s m args below meth c H locs 0 0 (MQ below (pg_Qc b Q K D ad A) args s 0 0 A) (F0 m (st.1 + 1) ls (.int (g x y) :: rest)) → W p l e R s m args below meth c H locs 0 0 (MQ below (pg_Qc b Q K D ad A) args s 0 0 A) (F0 m st.1 ls (.int y :: .int x :: rest))) {L : List Prop} (he : pg_i2c f st = some (L, st')) (hL : pg_all L) (hg : pg_G b M Q p l e R s m args below meth c K D ad A st') : pg_G b M Q p l e R s m args below meth c K D ad A st := by
  obtain ⟨x, y, r, h1, ⟨h2, h3, h4⟩, rfl⟩ := pg_i2c_inv he hL
  intro H locs ls hl hP hD hS
  rw [h1]
  refine row ?_ ?_
  · intro h0
    exact h2 ((pg_I_inj h4 pg_in0).mp h0)
  · rw [← hfg x y h3 h4 h2]
    exact hg H locs ls hl hP hD hS
theorem pg_s_l2 {f : Int → Int → Int} {g : Int64 → Int64 → Int64} (hfg : ∀ x y, pg_J (f x y) = g (pg_J x) (pg_J y)) (row : ∀ {H : Heap} {locs : List Loc} {ls : Array Slot} {rest : List Value} {x y : Int64}, W p l e R s m args below meth c H locs 0 0 (MQ below (pg_Qc b Q K D ad A) args s 0 0 A) (F0 m (st.1 + 1) ls (.long (g x y) :: rest)) → W p l e R s m args below meth c H locs 0 0 (MQ below (pg_Qc b Q K D ad A) args s 0 0 A) (F0 m st.1 ls (.long y :: .long x :: rest))) {L : List Prop} (he : pg_l2 f st = some (L, st')) (hg : pg_G b M Q p l e R s m args below meth c K D ad A st') : pg_G b M Q p l e R s m args below meth c K D ad A st := by
  obtain ⟨x, y, r, h1, rfl⟩ := pg_l2_inv he
  intro H locs ls hl hP hD hS
  rw [h1]
  refine row ?_
  rw [← hfg]
  exact hg H locs ls hl hP hD hS
theorem pg_psh_inv {v : pg_V} {n : Nat} {st st' : pg_St} {L : List Prop} (he : pg_psh v n st = some (L, st')) : st' = (st.1 + n, st.2.1, v :: st.2.2.1, st.2.2.2) := by
  simp only [pg_psh] at he
  cases he
  rfl
theorem pg_tdiv (x y : Int) (hx : pg_inR x) (hy : pg_inR y) : pg_I (Int.tdiv x y) = pg_I x / pg_I y :=
  Int32.ofInt_tdiv (by rw [show Int32.minValue.toInt = -2147483648 from rfl]; exact hx.1) (by rw [show Int32.maxValue.toInt = 2147483647 from rfl]; exact hx.2) (by rw [show Int32.minValue.toInt = -2147483648 from rfl]; exact hy.1) (by rw [show Int32.maxValue.toInt = 2147483647 from rfl]; exact hy.2)
theorem pg_ltdiv (x y : Int) (hx : pg_inL x) (hy : pg_inL y) : pg_J (Int.tdiv x y) = pg_J x / pg_J y :=
  Int64.ofInt_tdiv (by rw [show Int64.minValue.toInt = -9223372036854775808 from rfl]; exact hx.1) (by rw [show Int64.maxValue.toInt = 9223372036854775807 from rfl]; exact hx.2) (by rw [show Int64.minValue.toInt = -9223372036854775808 from rfl]; exact hy.1) (by rw [show Int64.maxValue.toInt = 9223372036854775807 from rfl]; exact hy.2)
theorem pg_tmod (x y : Int) (hx : pg_inR x) (hy : pg_inR y) : pg_I (Int.tmod x y) = pg_I x - pg_I x / pg_I y * pg_I y := by
  have h : Int.tmod x y = x - Int.tdiv x y * y := by
    have := Int.tmod_add_mul_tdiv x y
    rw [Int.mul_comm] at this
    omega
  rw [← pg_tdiv x y hx hy, h]
  show Int32.ofInt _ = _
  rw [Int32.ofInt_sub, Int32.ofInt_mul]
  rfl
theorem pg_ltmod (x y : Int) (hx : pg_inL x) (hy : pg_inL y) : pg_J (Int.tmod x y) = pg_J x - pg_J x / pg_J y * pg_J y := by
  have h : Int.tmod x y = x - Int.tdiv x y * y := by
    have := Int.tmod_add_mul_tdiv x y
    rw [Int.mul_comm] at this
    omega
  rw [← pg_ltdiv x y hx hy, h]
  show Int64.ofInt _ = _
  rw [Int64.ofInt_sub, Int64.ofInt_mul]
  rfl
theorem pg_lcmp (x y : Int) (hx : pg_inL x) (hy : pg_inL y) : pg_I (pg_cmp x y) = lg_cmp (pg_J x) (pg_J y) := by
  unfold pg_cmp lg_cmp
  have h1 : pg_J x > pg_J y ↔ y < x := by
    show pg_J y < pg_J x ↔ _
    rw [Int64.lt_iff_toInt_lt, pg_J_in hx, pg_J_in hy]
  have h2 : pg_J x = pg_J y ↔ x = y := by
    refine ⟨fun h => ?_, fun h => by rw [h]⟩
    rw [← pg_J_in hx, ← pg_J_in hy, h]
  by_cases a : y < x
  · rw [if_pos a, if_pos (h1.mpr a)]; rfl
  · rw [if_neg a, if_neg (fun h => a (h1.mp h))]
    by_cases a2 : x = y
    · rw [if_pos a2, if_pos (h2.mpr a2)]; rfl
    · rw [if_neg a2, if_neg (fun h => a2 (h2.mp h))]; rfl
theorem pg_bi : ∀ n : Int, -128 ≤ n → n ≤ 127 → (Int8.ofInt n).toInt32 = pg_I n := by
  intro n h1 h2
  apply Int32.toInt.inj
  rw [pg_I_in ⟨by omega, by omega⟩]
  rw [Int8.toInt_toInt32]
  exact Int8.toInt_ofInt_of_le (by omega) (by omega)
theorem pg_si : ∀ n : Int, -32768 ≤ n → n ≤ 32767 → (Int16.ofInt n).toInt32 = pg_I n := by
  intro n h1 h2
  apply Int32.toInt.inj
  rw [pg_I_in ⟨by omega, by omega⟩]
  rw [Int16.toInt_toInt32]
  exact Int16.toInt_ofInt_of_le (by omega) (by omega)
theorem pg_i2l' (x : Int) (hx : pg_inR x) : (pg_I x).toInt64 = pg_J x := by
  apply Int64.toInt.inj
  rw [Int32.toInt_toInt64, pg_I_in hx, pg_J_in ⟨by have := hx.1; omega, by have := hx.2; omega⟩]
end PGS
