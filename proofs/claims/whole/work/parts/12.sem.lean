/-! calls; a method's contract out of its run -/
def pg_pops : Nat → List pg_V → List pg_V → Option (List pg_V × List pg_V)
  | 0, acc, stk => some (acc, stk)
  | _ + 1, _, [] => none
  | n + 1, acc, v :: r => pg_pops n (v :: acc) r
theorem pg_pops_eq : ∀ (n : Nat) (acc stk as rest : List pg_V), pg_pops n acc stk = some (as, rest) → ∃ bs, as = bs ++ acc ∧ bs.length = n ∧ stk = bs.reverse ++ rest := by
  intro n
  induction n with
  | zero => intro acc stk as rest h; cases h; exact ⟨[], rfl, rfl, rfl⟩
  | succ n ih =>
    intro acc stk as rest h
    cases stk with
    | nil => cases h
    | cons v r =>
      obtain ⟨bs, h1, h2, h3⟩ := ih (v :: acc) r as rest h
      exact ⟨bs ++ [v], by rw [h1, List.append_assoc]; rfl, by simp [h2], by simp [h3]⟩
def pg_csum : List pg_V → Nat
  | [] => 0
  | v :: r => (bif pg_isL v then 2 else 1) + pg_csum r
theorem pg_csum_eq (ad : Nat → Nat) (r : List pg_V) : ((r.map (pg_cv ad)).map fun v => v.category).sum = pg_csum r := by
  induction r with
  | nil => rfl
  | cons v r ih =>
    simp only [List.map_cons, List.sum_cons, pg_csum, ih]
    rcases v with z | z | z <;> rfl
def pg_rmok (M Mc : pg_M) : Bool := Nat.ble (Mc.2.2.2.2.2.1 + 1) M.2.2.2.2.2.1 && Nat.ble (8 + (Mc.2.2.1 + 11) + Mc.2.2.2.2.2.2.1) M.2.2.2.2.2.2.1
/-- a call: the method, its arguments, what is left on the stack -/
def pg_inv (sh : List pg_Ce) (M : pg_M) (i : Instr) (st : pg_St) : Option (pg_M × List pg_V × List pg_V) := match i with
  | .invokevirtual ix => match pg_look (pg_MT M.2.2.2.2.1) ix with
    | some (false, n, Mc) => match pg_pops n [] st.2.2.1 with
      | some (as, .inr (.inr q) :: rest) => match pg_nth sh q with
        | some (3, ci, _) => bif Nat.beq ci Mc.2.2.2.2.1 && (pg_rmok M Mc && Nat.ble (pg_csum rest) 8) then some (Mc, .inr (.inr q) :: as, rest) else none
        | _ => none
      | _ => none
    | _ => none
  | .invokestatic ix => match pg_look (pg_MT M.2.2.2.2.1) ix with
    | some (true, n, Mc) => match pg_pops n [] st.2.2.1 with
      | some (as, rest) => bif pg_rmok M Mc && Nat.ble (pg_csum rest) 8 then some (Mc, as, rest) else none
      | _ => none
    | _ => none
  | _ => none
section PGC
variable {b : Bool} {M Mc : pg_M} {Q Q' : Option pg_V → pg_H → Prop} {p : Program} {l : Launch} {e : Env} {R : Room} {s : State} {m : MethodId} {args : Array Value} {below : List Frame} {meth : Method} {c : Code} {K : pg_K3} {D : va_G} {ad : Nat → Nat} {A : Nat → Prop} {st : pg_St}
theorem pg_Stx_moved {u U : State} (hvm : u.vm.Alike U.vm) (hN : ∀ e ∈ pg_ST 2, va_Nw (.fieldLinkNest (pgR 2) e.1 "PlaneGroups" (pg_stn e.2) "[I" "PlaneGroups") U) {A B : Nat → Prop} (hAB : ∀ q, B q → A q) (hk : ∀ a : Nat, a < u.heap.size → ¬ A a → U.heap[a]? = u.heap[a]?) (h : pg_Stx ad A u) : pg_Stx ad B U :=
  ⟨⟨((h.1.1.kept hk).narrow hAB).moved hvm, ((h.1.2.kept hk).narrow hAB).moved hvm⟩, ⟨((h.2.1.1.kept hk).narrow hAB).moved hvm, ((h.2.1.2.kept hk).narrow hAB).moved hvm⟩, hN⟩
def pg_Pc (b : Bool) (as : List pg_V) (h : pg_H) (K : pg_K3) (D : va_G) (ad : Nat → Nat) (sz : Nat) : Array Value → State → Prop :=
  va_Pc (as.map (pg_cv ad)) (fun U => U.heap.size = sz ∧ va_P D pgCl (pg_wd K ad (pg_sh b) h) U.heap ∧ va_K D pgCl (pg_tys K) U ∧ va_D (fun _ => True) (pg_wd K ad (pg_sh b) h) ∧ pg_Stx ad (va_A (pg_wd K ad (pg_sh b) h) sz) U)
theorem pg_blind (as : List pg_V) (h : pg_H) (sz : Nat) : FrameBlind (pg_Pc b as h K D ad sz) := by
  intro a U g mk q
  obtain ⟨q0, q1, q2, q3, q4, q5⟩ := q
  exact ⟨q0, q1, q2, va_K.moved (u := U) (U := U.calling g mk a) (Vm.Alike.refl U.vm) q3, q4, pg_Stx_moved (u := U) (U := U.calling g mk a) (Vm.Alike.refl U.vm) (fun e he => va_Nw.same rfl (u := U) rfl (q5.2.2 e he)) (fun _ h => h) (fun _ _ _ => rfl) q5⟩
theorem pg_callG {rest : List pg_V} {h : pg_H} {H : Heap} {locs : List Loc} {ls : Array Slot} {pc : Nat} {st0 : List Value} {a : Array Value} {free : Addr → Prop}
    (hr : va_Run p l e R s m args below meth c H locs 0 0 0 0 (F0 m pc ls st0) (rest.map (pg_cv ad)) (pg_Qc b Q' K D ad (va_A (pg_wd K ad (pg_sh b) h) H.size) a) free)
    (hS : va_S A s.heap H locs) (hD : va_D A (pg_wd K ad (pg_sh b) h)) (hA : ∀ q, va_A (pg_wd K ad (pg_sh b) h) H.size q → A q) (hf : ∀ q, free q → A q) {lv : pg_L} (hl : lv_has ls M.2.2.1 (lv.map (pg_cl ad)))
    (kk : ∀ (r : Option pg_V) (h' : pg_H), Q' r h' → pg_G b M Q p l e R s m args below meth c K D ad A (pc + 3, lv, r.toList ++ rest, h')) :
    W p l e R s m args below meth c H locs 0 0 (MQ below (pg_Qc b Q K D ad A) args s 0 0 A) (F0 m pc ls st0) := by
  intro T hT X
  obtain ⟨v, st₀, t, T', L, h0, X', hL, e1, e2, ⟨⟨r, h', hq, hv, hP'⟩, hz, hk⟩, stp⟩ := hr T hT X
  rw [h0] at hz hk
  have hv' : v = r.map (pg_cv ad) := Option.some.inj (by cases hv; rfl)
  subst hv'
  have hS' : va_S A s.heap T'.heap (locs ++ L) := ⟨Nat.le_trans hS.1 (by rw [e1]; exact hz), fun q h1 h2 => by rw [e1, hk q (Nat.lt_of_lt_of_le h1 hS.1) (fun z => h2 (hA q z))]; exact hS.2.1 q h1 h2, fun q hq => by
      rcases List.mem_append.mp hq with h | h
      · exact hS.2.2 q h
      · exact hf _ (hL q h)⟩
  have hW := kk r h' hq T'.heap (locs ++ L) ls hl (by rw [e1]; exact hP') (pg_D hD) hS'
  have hst : (r.toList ++ rest).map (pg_cv ad) = (r.map (pg_cv ad)).toList ++ rest.map (pg_cv ad) := by cases r <;> rfl
  obtain ⟨t2, a1, b1⟩ := hW T' rfl X'
  rw [hst] at a1
  exact ⟨t2, stp t2 a1, b1⟩
theorem pg_goodC {cd : Cond} (hc : cd ∈ pg_tb) : GoodIn pg_tb (cd :: pg_tb) := fun w h => by
  rcases List.mem_cons.mp h with rfl | h
  · exact pg_tb_good _ hc
  · exact pg_tb_good _ h
theorem pg_A_in {h : pg_H} {H : Heap} {locs : List Loc} (hD : va_D A (pg_wd K ad (pg_sh b) h)) (hS : va_S A s.heap H locs) (hA : ∀ q, s.heap.size ≤ q → A q) : ∀ q, va_A (pg_wd K ad (pg_sh b) h) H.size q → A q := by
  intro q hq
  rcases hq with ⟨k, e, hk⟩ | hq
  · exact hD.2 k (q, e) hk
  · exact hA q (Nat.le_trans hS.1 hq)
theorem pg_inv_step (hX : pg_Cx p R s m args meth c K D ad A M) {i : Instr} {len : Nat} {as rest : List pg_V} (hf : pg_fetch M.2.2.2.2.2.2.2 st.1 = some (i, len)) (he : pg_inv (pg_sh b) M i st = some (Mc, as, rest)) (hs : pg_Sem b Mc as st.2.2.2 Q')
    (kk : ∀ (r : Option pg_V) (h' : pg_H), Q' r h' → pg_G b M Q p l e R s m args below meth c K D ad A (st.1 + 3, st.2.1, r.toList ++ rest, h')) : pg_G b M Q p l e R s m args below meth c K D ad A st := by
  obtain ⟨hx, hb, hml, hr, hlk, hown, hts, hK, hR, hA, hck, hZ⟩ := hX
  obtain ⟨hd, hlen⟩ := pg_dec hck hf
  unfold pg_inv at he
  split at he
  · rename_i ix
    simp only [pg_isSw, pg_len, Bool.false_eq_true, false_or] at hlen
    subst hlen
    split at he
    · rename_i n Mc0 hlook
      split at he
      · rename_i as0 q rest0 hpop
        split at he
        · rename_i ci fs hsh
          rw [pg_nth_eq] at hsh
          cases hcnd : (Nat.beq ci Mc0.2.2.2.2.1 && (pg_rmok M Mc0 && Nat.ble (pg_csum rest0) 8)) with
          | false => rw [hcnd] at he; cases he
          | true =>
            rw [hcnd] at he
            cases he
            obtain ⟨c1, c2⟩ := pg_andT hcnd
            obtain ⟨c2, c3⟩ := pg_andT c2
            obtain ⟨c4, c5⟩ := pg_andT c2
            have hci := Nat.eq_of_beq_eq_true c1
            obtain ⟨bs, hb1, hb2, hb3⟩ := pg_pops_eq _ _ _ _ _ hpop
            rw [List.append_nil] at hb1
            subst hb1
            obtain ⟨hlink, hF1, hF2, hF3, hF4, hF5, hF6, hF7⟩ := pg_MTok _ _ (pg_look_in hlook)
            have hF1 : Cond.instanceMethod Mc.1 ∈ pg_tb ∧ Cond.selects Mc.1.cls Mc.1 Mc.1 ∈ pg_tb := hF1
            intro H locs ls hl hP hD hS
            have hAi := pg_A_in hD hS hA
            have hM := hs l K D ad H.size
            have hPU : ∀ U : State, U.heap = H → s.WarmedH U.vm → pg_Pc b (.inr (.inr q) :: as0) st.2.2.2 K D ad H.size ((Value.ref (ad q) :: as0.map (pg_cv ad)).toArray) U := fun U hU hW =>
              ⟨rfl, by rw [hU], by rw [hU]; exact hP, va_K.moved hW.alike hK, hD.weaken (fun _ _ _ _ => trivial), pg_Stx_moved hW.alike (fun e he => va_Nw.warmF hW (hZ.2.2 e he)) hAi (fun a h1 h2 => by rw [hU]; exact hS.2.1 a h1 h2) hZ⟩
            obtain ⟨Cq, hCq⟩ : ∃ r : vw_C, pgCl[ci]? = some r := by
              obtain ⟨r, hr, -⟩ := hP q _ (pg_wd_at hsh)
              exact ⟨r, hr⟩
            obtain ⟨cellB, hcell, hnst, hcls⟩ := va_recv hK hP hCq (pg_wd_at (K := K) (ad := ad) (h := st.2.2.2) hsh)
            have hCn : Cq.1 = Mc.1.cls := by
              rw [hF5, ← hci]
              rcases (show ci < 10 by exact (List.getElem?_eq_some_iff.mp hCq).1) with hlt
              match ci, hlt, hCq with
              | 0, _, h => cases h; rfl
              | 1, _, h => cases h; rfl
              | 2, _, h => cases h; rfl
              | 3, _, h => cases h; rfl
              | 4, _, h => cases h; rfl
              | 5, _, h => cases h; rfl
              | 6, _, h => cases h; rfl
              | 7, _, h => cases h; rfl
              | 8, _, h => cases h; rfl
              | 9, _, h => cases h; rfl
              | k + 10, hlt, _ => exact absurd hlt (by omega)
            rw [hCn] at hcls
            have hcb : CallB R s args (pgR M.2.2.2.2.1) ix Mc.1 Mc.2.1 Mc.2.2.1 Mc.2.2.2.1 (Cond.code Mc.1 Mc.2.1 Mc.2.2.1 Mc.2.2.2.1 :: pg_tb) (pg_rm Mc) 0 0 n :=
              callB_of n hts (pg_goodC hF3) rfl rfl rfl (hts _ hF2) (hts _ hlink) hF4 (by rw [hR]; exact ⟨Nat.le_of_ble_eq_true c4, Nat.le_of_ble_eq_true c5⟩)
            have hrun := va_runV (H := H) (locs := locs) (cells := 0) (slots := 0) (below := below) (e := e) (meth := meth) (As := as0.map (pg_cv ad)) (rest := rest.map (pg_cv ad)) (b := ad q) (g := F0 m st.1 ls (st.2.2.1.map (pg_cv ad))) (C := Mc.1.cls) ⟨hx, hb, hml, hown, hts⟩ hM ⟨hcb, hts _ hF1.1, hts _ hF1.2⟩ ⟨pg_blind (.inr (.inr q) :: as0) st.2.2.2 H.size, ⟨cellB, hcell, hnst, hcls⟩, hPU⟩ rfl (by rw [List.length_map]; exact hb2) hl.1 (by rw [hb3]; simp [pg_cv]) (lv_room (by rw [pg_csum_eq]; exact Nat.le_of_ble_eq_true c3)) hd (by rw [hR]; exact ⟨Nat.le_refl _, Nat.le_refl _⟩)
            exact pg_callG hrun hS hD hAi hAi hl kk
        · cases he
      · cases he
    · cases he
  · rename_i ix
    simp only [pg_isSw, pg_len, Bool.false_eq_true, false_or] at hlen
    subst hlen
    split at he
    · rename_i n Mc0 hlook
      split at he
      · rename_i as0 rest0 hpop
        cases hcnd : (pg_rmok M Mc0 && Nat.ble (pg_csum rest0) 8) with
        | false => rw [hcnd] at he; cases he
        | true =>
          rw [hcnd] at he
          cases he
          obtain ⟨c2, c3⟩ := pg_andT hcnd
          obtain ⟨c4, c5⟩ := pg_andT c2
          obtain ⟨bs, hb1, hb2, hb3⟩ := pg_pops_eq _ _ _ _ _ hpop
          rw [List.append_nil] at hb1
          subst hb1
          obtain ⟨hlink, hF1, hF2, hF3, hF4, hF5, hF6, hF7⟩ := pg_MTok _ _ (pg_look_in hlook)
          have hF1 : Cond.static Mc.1 ∈ pg_tb := hF1
          intro H locs ls hl hP hD hS
          have hAi := pg_A_in hD hS hA
          have hM := hs l K D ad H.size
          have hPU : ∀ U : State, U.heap = H → s.WarmedH U.vm → pg_Pc b as st.2.2.2 K D ad H.size ((as.map (pg_cv ad)).toArray) U := fun U hU hW =>
            ⟨rfl, by rw [hU], by rw [hU]; exact hP, va_K.moved hW.alike hK, hD.weaken (fun _ _ _ _ => trivial), pg_Stx_moved hW.alike (fun e he => va_Nw.warmF hW (hZ.2.2 e he)) hAi (fun a h1 h2 => by rw [hU]; exact hS.2.1 a h1 h2) hZ⟩
          have hcb : CallB R s args (pgR M.2.2.2.2.1) ix Mc.1 Mc.2.1 Mc.2.2.1 Mc.2.2.2.1 (Cond.code Mc.1 Mc.2.1 Mc.2.2.1 Mc.2.2.2.1 :: pg_tb) (pg_rm Mc) 0 0 n :=
            callB_of n hts (pg_goodC hF3) rfl rfl rfl (hts _ hF2) (hts _ hlink) hF4 (by rw [hR]; exact ⟨Nat.le_of_ble_eq_true c4, Nat.le_of_ble_eq_true c5⟩)
          have hrun := va_runS (H := H) (locs := locs) (cells := 0) (slots := 0) (below := below) (e := e) (meth := meth) (As := as.map (pg_cv ad)) (rest := rest.map (pg_cv ad)) (g := F0 m st.1 ls (st.2.2.1.map (pg_cv ad))) ⟨hx, hb, hml, hown, hts⟩ hM ⟨hcb, hts _ hF1⟩ ⟨pg_blind as st.2.2.2 H.size, hPU⟩ rfl (by rw [List.length_map]; exact hb2) hl.1 (by rw [hb3]; simp) (lv_room (by rw [pg_csum_eq]; exact Nat.le_of_ble_eq_true c3)) hd (by rw [hR]; exact ⟨Nat.le_refl _, Nat.le_refl _⟩)
          exact pg_callG hrun hS hD hAi hAi hl kk
      · cases he
    · cases he
  · cases he
end PGC
