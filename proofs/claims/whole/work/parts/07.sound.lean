/-! the small machine says what the machine does: words -/
def pg_cv (ad : Nat → Nat) : pg_V → Value
  | .inl z => .int (pg_I z)
  | .inr (.inl z) => .long (pg_J z)
  | .inr (.inr q) => .ref (ad q)
def pg_cl (ad : Nat → Nat) (q : Nat × pg_V) : Nat × Value := (q.1, pg_cv ad q.2)
def pg_fw (ad : Nat → Nat) (c : Nat) (z : Int) : Value := match c with
  | 0 => .int (pg_I z)
  | 1 => .int (pg_I z)
  | 2 => .long (pg_J z)
  | r + 3 => .ref (ad r)
theorem pg_cv_fv (ad : Nat → Nat) (c : Nat) (z : Int) : pg_cv ad (pg_fv c z) = pg_fw ad c z := by
  match c with
  | 0 => rfl
  | 1 => rfl
  | 2 => rfl
  | _ + 3 => rfl
abbrev pg_K3 : Type := ClassId × ClassId × ClassId
abbrev pg_tys (K : pg_K3) : List (ClassId × FieldType) := [(K.1, .int), (K.2.1, .boolean), (K.2.2, .long)]
def pg_ce (K : pg_K3) (ad : Nat → Nat) (c : pg_Ce) (row : Nat → Int) : va_E := match c with
  | (0, n, _) => .inl (K.1, n, .inl (fun i => pg_I (row i)))
  | (1, n, _) => .inl (K.2.1, n, .inl (fun i => pg_I (row i)))
  | (2, n, _) => .inl (K.2.2, n, .inr (.inl (fun i => pg_J (row i))))
  | (_ + 3, ci, fs) => .inr (ci, fs.mapIdx (fun j c => pg_fw ad c (row j)))
def pg_wd (K : pg_K3) (ad : Nat → Nat) (sh : List pg_Ce) (h : pg_H) : va_W := sh.mapIdx (fun q c => (ad q, pg_ce K ad c (h q)))
theorem pg_nth_eq {α : Type} (l : List α) (k : Nat) : pg_nth l k = l[k]? := by
  induction l generalizing k with
  | nil => cases k <;> rfl
  | cons a r ih => cases k with
    | zero => rfl
    | succ k => simp [pg_nth, ih]
theorem pg_wd_at {K : pg_K3} {ad : Nat → Nat} {sh : List pg_Ce} {h : pg_H} {q : Nat} {c : pg_Ce} (hq : sh[q]? = some c) : (pg_wd K ad sh h)[q]? = some (ad q, pg_ce K ad c (h q)) := by
  simp [pg_wd, List.getElem?_mapIdx, hq]
theorem pg_up_q (h : pg_H) (q i : Nat) (z : Int) : pg_up h q i z q = fun i' => bif Nat.beq i' i then z else h q i' := by
  simp [pg_up]
theorem pg_up_n (h : pg_H) {q q' : Nat} (i : Nat) (z : Int) (hn : q' ≠ q) : pg_up h q i z q' = h q' := by
  have e : Nat.beq q' q = false := by
    cases h : Nat.beq q' q with
    | false => rfl
    | true => exact absurd (Nat.eq_of_beq_eq_true h) hn
  simp [pg_up, e]
theorem pg_wd_set {K : pg_K3} {ad : Nat → Nat} {sh : List pg_Ce} {h : pg_H} {q : Nat} {c : pg_Ce} (hq : sh[q]? = some c) (i : Nat) (z : Int) : (pg_wd K ad sh h).set q (ad q, pg_ce K ad c (pg_up h q i z q)) = pg_wd K ad sh (pg_up h q i z) := by
  apply List.ext_getElem?
  intro j
  by_cases hj : q = j
  · subst hj
    have hl : q < (pg_wd K ad sh h).length := (List.getElem?_eq_some_iff.mp (pg_wd_at hq)).1
    rw [List.getElem?_set_self hl, pg_wd_at hq]
  · rw [List.getElem?_set_ne hj]
    simp only [pg_wd, List.getElem?_mapIdx]
    rw [pg_up_n h i z (fun e => hj e.symm)]
theorem pg_D {A : Nat → Prop} {K : pg_K3} {ad : Nat → Nat} {sh : List pg_Ce} {h h' : pg_H} (hD : va_D A (pg_wd K ad sh h)) : va_D A (pg_wd K ad sh h') := by
  have key : ∀ (k : Nat) (q : Nat × va_E), (pg_wd K ad sh h')[k]? = some q → ∃ q0, (pg_wd K ad sh h)[k]? = some q0 ∧ q0.1 = q.1 := by
    intro k q hk
    simp only [pg_wd, List.getElem?_mapIdx] at hk ⊢
    cases hs : sh[k]? with
    | none => rw [hs] at hk; cases hk
    | some c => rw [hs] at hk; cases hk; exact ⟨_, rfl, rfl⟩
  refine ⟨fun i j p q hi hj he => ?_, fun k q hk => ?_⟩
  · obtain ⟨p0, h1, e1⟩ := key i p hi
    obtain ⟨q0, h2, e2⟩ := key j q hj
    exact hD.1 i j p0 q0 h1 h2 (by rw [e1, e2, he])
  · obtain ⟨q0, h1, e1⟩ := key k q hk
    rw [← e1]
    exact hD.2 k q0 h1
theorem pg_A {K : pg_K3} {ad : Nat → Nat} {sh : List pg_Ce} {h h' : pg_H} {sz q : Nat} (hq : va_A (pg_wd K ad sh h) sz q) : va_A (pg_wd K ad sh h') sz q := by
  rcases hq with ⟨k, e, hk⟩ | hq
  · left
    simp only [pg_wd, List.getElem?_mapIdx] at hk ⊢
    cases hs : sh[k]? with
    | none => rw [hs] at hk; cases hk
    | some c => rw [hs] at hk; cases hk; exact ⟨k, _, by rw [hs]; rfl⟩
  · exact Or.inr hq
/-- what is known of the two arrays -/
def pg_stn (q : Nat) : String := bif Nat.beq q 1000 then "SQUARE_AXES" else "TRIANGLE_AXES"
def pg_Stx (ad : Nat → Nat) (A : Nat → Prop) (s : State) : Prop :=
  (va_Z "PlaneGroups" "SQUARE_AXES" "[I" (.ref (ad 1000)) A s s.heap ∧ va_Z "PlaneGroups" "TRIANGLE_AXES" "[I" (.ref (ad 1001)) A s s.heap) ∧ (va_T .int (ad 1000) 8 (fun j => .int (pg_I (pg_sq j))) A s s.heap ∧ va_T .int (ad 1001) 12 (fun j => .int (pg_I (pg_tq j))) A s s.heap) ∧ ∀ e ∈ pg_ST 2, va_Nw (.fieldLinkNest (pgR 2) e.1 "PlaneGroups" (pg_stn e.2) "[I" "PlaneGroups") s
def pg_rm (M : pg_M) : Room := { frames := M.2.2.2.2.2.1, cells := 0, slots := 0, locals := M.2.2.2.2.2.2.1 }
/-- the surroundings of a method's run -/
def pg_Cx (p : Program) (R : Room) (s : State) (m : MethodId) (args : Array Value) (meth : Method) (c : Code) (K : pg_K3) (D : va_G) (ad : Nat → Nat) (A : Nat → Prop) (M : pg_M) : Prop :=
  p.tables.exec = Jvm.exec ∧ c.code = M.2.1 ∧ c.maxLocals = M.2.2.1 ∧ meth.sig.returnType = M.2.2.2.1 ∧ meth.locks = false ∧ s.vm.findClass (pgR M.2.2.2.2.1) = some m.cls ∧ (∀ w ∈ pg_tb, w.before args s = true) ∧ va_K D pgCl (pg_tys K) s ∧ R = pg_rm M ∧ (∀ q, s.heap.size ≤ q → A q) ∧ pg_ck M = true ∧ pg_Stx ad A s
def pg_Qc (b : Bool) (Q : Option pg_V → pg_H → Prop) (K : pg_K3) (D : va_G) (ad : Nat → Nat) (A : Nat → Prop) : Array Value → State → Outcome → State → Prop :=
  fun _ s0 oc t => (∃ (r : Option pg_V) (h' : pg_H), Q r h' ∧ oc = .returned (r.map (pg_cv ad)) ∧ va_P D pgCl (pg_wd K ad (pg_sh b) h') t.heap) ∧ va_F A s0 t
def pg_G (b : Bool) (M : pg_M) (Q : Option pg_V → pg_H → Prop) (p : Program) (l : Launch) (e : Env) (R : Room) (s : State) (m : MethodId) (args : Array Value) (below : List Frame) (meth : Method) (c : Code) (K : pg_K3) (D : va_G) (ad : Nat → Nat) (A : Nat → Prop) (st : pg_St) : Prop :=
  ∀ (H : Heap) (locs : List Loc) (ls : Array Slot), lv_has ls M.2.2.1 (st.2.1.map (pg_cl ad)) → va_P D pgCl (pg_wd K ad (pg_sh b) st.2.2.2) H → va_D A (pg_wd K ad (pg_sh b) st.2.2.2) → va_S A s.heap H locs →
    W p l e R s m args below meth c H locs 0 0 (MQ below (pg_Qc b Q K D ad A) args s 0 0 A) (F0 m st.1 ls (st.2.2.1.map (pg_cv ad)))
def pg_Good (b : Bool) (M : pg_M) (Q : Option pg_V → pg_H → Prop) (st : pg_St) : Prop :=
  ∀ (p : Program) (l : Launch) (e : Env) (R : Room) (s : State) (m : MethodId) (args : Array Value) (below : List Frame) (meth : Method) (c : Code) (K : pg_K3) (D : va_G) (ad : Nat → Nat) (A : Nat → Prop), pg_Cx p R s m args meth c K D ad A M → pg_G b M Q p l e R s m args below meth c K D ad A st
/-- a method's contract, in the small machine's words -/
def pg_Sem (b : Bool) (M : pg_M) (as : List pg_V) (h : pg_H) (Q : Option pg_V → pg_H → Prop) : Prop :=
  ∀ (l : Launch) (K : pg_K3) (D : va_G) (ad : Nat → Nat) (sz : Nat), Met l M.1 (Cond.code M.1 M.2.1 M.2.2.1 M.2.2.2.1 :: pg_tb) (pg_rm M)
    (va_Pc (as.map (pg_cv ad)) (fun U => U.heap.size = sz ∧ va_P D pgCl (pg_wd K ad (pg_sh b) h) U.heap ∧ va_K D pgCl (pg_tys K) U ∧ va_D (fun _ => True) (pg_wd K ad (pg_sh b) h) ∧ pg_Stx ad (va_A (pg_wd K ad (pg_sh b) h) sz) U))
    (pg_Qc b Q K D ad (va_A (pg_wd K ad (pg_sh b) h) sz)) 0 0 (va_A (pg_wd K ad (pg_sh b) h) sz)
/-! numbers -/
theorem pg_I_in {z : Int} (h : pg_inR z) : (pg_I z).toInt = z := Int32.toInt_ofInt_of_le (by have := h.1; omega) (by have := h.2; omega)
theorem pg_J_in {z : Int} (h : pg_inL z) : (pg_J z).toInt = z := Int64.toInt_ofInt_of_le (by have := h.1; omega) (by have := h.2; omega)
theorem pg_I_ti (x : Int32) : pg_I x.toInt = x := by simp [pg_I]
theorem pg_I_inj {x y : Int} (hx : pg_inR x) (hy : pg_inR y) : pg_I x = pg_I y ↔ x = y := by
  refine ⟨fun h => ?_, fun h => by rw [h]⟩
  rw [← pg_I_in hx, ← pg_I_in hy, h]
theorem pg_I_lt {x y : Int} (hx : pg_inR x) (hy : pg_inR y) : pg_I x < pg_I y ↔ x < y := by
  rw [Int32.lt_iff_toInt_lt, pg_I_in hx, pg_I_in hy]
theorem pg_I_le {x y : Int} (hx : pg_inR x) (hy : pg_inR y) : pg_I x ≤ pg_I y ↔ x ≤ y := by
  rw [Int32.le_iff_toInt_le, pg_I_in hx, pg_I_in hy]
theorem pg_in0 : pg_inR 0 := ⟨by decide, by decide⟩
theorem pg_I0 : pg_I 0 = 0 := rfl
theorem pg_J0 : pg_J 0 = 0 := rfl
theorem pg_in_vp {i : Int} {n : Nat} (h : 0 ≤ i ∧ i < (n : Int)) (hn : n < 2147483648) : vp_in (pg_I i) n := by
  rw [vp_in_iff, pg_I_in ⟨by omega, by omega⟩]
  exact h
theorem pg_clamp {i : Int} {n : Nat} (h : 0 ≤ i ∧ i < (n : Int)) (hn : n < 2147483648) : (pg_I i).toNatClampNeg = i.toNat := by
  show (pg_I i).toInt.toNat = i.toNat
  rw [pg_I_in ⟨by omega, by omega⟩]
