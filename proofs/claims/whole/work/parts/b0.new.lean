/-! constructors: what they stand on -/
section KNEW
variable {p : Program} {l : Launch} {e : Env} {R : Room} {s : State} {m : MethodId} {args : Array Value} {below : List Frame} {meth : Method} {c : Code} {H : Heap} {locs : List Loc} {cells slots : Nat} {Q : State → Prop}
variable {cc : ByteArray} {pc : Nat} {ls : Array Slot} {rest : List Value} {D : va_G} {cl : List vw_C} {A : Nat → Prop} {ws : va_W} {H0 : Heap}
/-- a new array whose class is known -/
theorem pg_newa (hexec : p.tables.exec = Jvm.exec) (hb : c.code = cc) {atype : ArrayType} (harr : (Cond.arrayClass (newarray.typeOf atype)).before args s = true) {ty : FieldType} (hty : newarray.typeOf atype = ty) {cA : ClassId} (hfc : s.vm.findClass ("[" ++ ty.toString) = some cA) (hP : va_P D cl ws H) (hD : va_D A ws) (hS : va_S A H0 H locs) (hA : ∀ q, H0.size ≤ q → A q)
    {n : Int32} {N' : Nat} {a0 : vp_A} (ha : vp_cell cA a0 = arrV cA N' (fun _ => defaultValue ty)) (hn : ¬ n < 0) (hN : n.toNatClampNeg = N') (hbytes : N' * componentBytes ty ≤ 536870912) (hcells : cells + 1 ≤ R.cells) (hslots : slots + N' ≤ R.slots) (hdg : decode cc pc = .ok (.newarray atype, 2))
    (kk : ∀ (q : Nat) (H1 : Heap), va_P D cl (ws ++ [(q, .inl (cA, a0))]) H1 → va_D A (ws ++ [(q, .inl (cA, a0))]) → va_S A H0 H1 locs →
      W p l e R s m args below meth c H1 locs (cells + 1) (slots + N') Q (F0 m (pc + 2) ls (.ref q :: rest))) : W p l e R s m args below meth c H locs cells slots Q (F0 m pc ls (.int n :: rest)) := by
  subst hty
  refine va_newaK hexec hb harr rfl hdg rfl hn hN hbytes hcells hslots rfl fun H1 cB e1 z1 o1 hAr hNm => ?_
  have hcc : cB = cA := Option.some.inj (hNm.symm.trans hfc)
  subst hcc
  have hk : ∀ (k : Nat) (x : Nat × va_E), ws[k]? = some x → H1[x.1]? = H[x.1]? := fun k x hx => o1 x.1 ((hP k x hx).lt)
  refine kk H.size H1 ((hP.kept hk).app (fun k x hx => ?_)) (hD.push hP rfl (hA _ hS.1)) ⟨Nat.le_trans hS.1 (by omega), fun x h1 h2 => (o1 x (Nat.lt_of_lt_of_le h1 hS.1)).trans (hS.2.1 x h1 h2), hS.2.2⟩
  have hz : k < 1 := (List.getElem?_eq_some_iff.mp hx).1
  rw [show k = 0 by omega] at hx
  cases hx
  show H1[H.size]? = some (vp_cell _ _)
  rw [ha]
  exact e1
end KNEW
/-- the places of the cells, the two static arrays' among them -/
def ki_ad (t0 t1 : Nat) (L : List Nat) : Nat → Nat := fun k => bif Nat.beq k 1000 then t0 else bif Nat.beq k 1001 then t1 else L.getD k 0
/-- two worlds have no cell in common -/
def pg_ap (w1 w2 : va_W) : Prop := ∀ (i j : Nat) (x y : Nat × va_E), w1[i]? = some x → w2[j]? = some y → x.1 ≠ y.1
theorem pg_kept {D : va_G} {wo wc : va_W} {H H1 : Heap} (hP : va_P D pgCl wo H) (hap : pg_ap wo wc) (hk : ∀ q : Nat, q < H.size → ¬ va_A wc H.size q → H1[q]? = H[q]?) : va_P D pgCl wo H1 := by
  refine hP.kept (fun k q hq => hk _ (hP k q hq).lt (fun h => ?_))
  rcases h with ⟨j, e, hj⟩ | h
  · exact hap k j q (q.1, e) hq hj rfl
  · exact absurd (hP k q hq).lt (by omega)
theorem pg_wd_adr {K : pg_K3} {ad : Nat → Nat} {sh : List pg_Ce} {h h' : pg_H} {k : Nat} {q : Nat × va_E} (hk : (pg_wd K ad sh h')[k]? = some q) : ∃ q0, (pg_wd K ad sh h)[k]? = some q0 ∧ q0.1 = q.1 := by
  simp only [pg_wd, List.getElem?_mapIdx] at hk ⊢
  cases hs : sh[k]? with
  | none => rw [hs] at hk; cases hk
  | some c => rw [hs] at hk; cases hk; exact ⟨_, rfl, rfl⟩
theorem pg_ap_wd {K : pg_K3} {ad : Nat → Nat} {sh : List pg_Ce} {h h' : pg_H} {wo : va_W} (hap : pg_ap wo (pg_wd K ad sh h)) : pg_ap wo (pg_wd K ad sh h') := by
  intro i j x y hx hy he
  obtain ⟨y0, h1, h2⟩ := pg_wd_adr (h := h) hy
  exact hap i j x y0 hx h1 (by rw [h2]; exact he)
theorem pg_ap_sw {w1 w2 : va_W} (h : pg_ap w1 w2) : pg_ap w2 w1 := fun i j x y hx hy he => h j i y x hy hx he.symm
section KCALL
variable {b : Bool} {Mc : pg_M} {Q' : Option pg_V → pg_H → Prop} {p : Program} {l : Launch} {e : Env} {R : Room} {s : State} {m : MethodId} {args : Array Value} {below : List Frame} {meth : Method} {c : Code} {K : pg_K3} {D : va_G} {ad : Nat → Nat} {A : Nat → Prop} {cc : ByteArray} {nL : Nat} {H : Heap} {locs : List Loc} {cells slots : Nat} {Q : State → Prop}
/-- a call of a method whose contract is known, by a method of another kind -/
theorem pg_callW {o ix n pc : Nat} {as0 : List pg_V} {q : Nat} {h : pg_H} {ci : Nat} {fs : List Nat} {rest stk : List Value} {ls : Array Slot}
    (hx : p.tables.exec = Jvm.exec) (hb : c.code = cc) (hml : c.maxLocals = nL) (hown : s.vm.findClass (pgR o) = some m.cls) (hts : ∀ w ∈ pg_tb, w.before args s = true)
    (hK : va_K D pgCl (pg_tys K) s) (hZ : pg_Stx ad A s) (hA : ∀ q, s.heap.size ≤ q → A q) (hls : ls.size = nL)
    (hP : va_P D pgCl (pg_wd K ad (pg_sh b) h) H) (hD : va_D A (pg_wd K ad (pg_sh b) h)) (hS : va_S A s.heap H locs)
    (hlook : pg_look (pg_MT o) ix = some (false, n, Mc)) (hsh : (pg_sh b)[q]? = some (3, ci, fs)) (hci : ci = Mc.2.2.2.2.1)
    (hR : (pg_rm Mc).frames + 1 ≤ R.frames ∧ 8 + (Mc.2.2.1 + 11) + (pg_rm Mc).locals ≤ R.locals) (hf : cells ≤ R.cells ∧ slots ≤ R.slots)
    (hn : as0.length = n) (hd : decode cc pc = .ok (.invokevirtual ix, 3)) (hstk : stk = (as0.map (pg_cv ad)).reverse ++ .ref (ad q) :: rest) (hsum : (rest.map fun v => v.category).sum ≤ 8)
    (hs : pg_Sem b Mc (.inr (.inr q) :: as0) h Q')
    (kk : ∀ (r : Option pg_V) (h' : pg_H) (H1 : Heap) (locs1 : List Loc), Q' r h' → va_P D pgCl (pg_wd K ad (pg_sh b) h') H1 → va_D A (pg_wd K ad (pg_sh b) h') → (∀ q : Nat, q < H.size → ¬ va_A (pg_wd K ad (pg_sh b) h) H.size q → H1[q]? = H[q]?) → va_S A s.heap H1 locs1 →
      W p l e R s m args below meth c H1 locs1 cells slots Q (F0 m (pc + 3) ls ((r.map (pg_cv ad)).toList ++ rest))) : W p l e R s m args below meth c H locs cells slots Q (F0 m pc ls stk) := by
  subst hstk
  obtain ⟨hlink, hF1, hF2, hF3, hF4, hF5, hF6, hF7⟩ := pg_MTok _ _ (pg_look_in hlook)
  have hF1 : Cond.instanceMethod Mc.1 ∈ pg_tb ∧ Cond.selects Mc.1.cls Mc.1 Mc.1 ∈ pg_tb := hF1
  have hAi := pg_A_in hD hS hA
  have hM := hs l K D ad H.size
  have hPU : ∀ U : State, U.heap = H → s.WarmedH U.vm → pg_Pc b (.inr (.inr q) :: as0) h K D ad H.size ((Value.ref (ad q) :: as0.map (pg_cv ad)).toArray) U := fun U hU hW =>
    ⟨rfl, by rw [hU], by rw [hU]; exact hP, va_K.moved hW.alike hK, hD.weaken (fun _ _ _ _ => trivial), pg_Stx_moved hW.alike (fun e he => va_Nw.warmF hW (hZ.2.2 e he)) hAi (fun a h1 h2 => by rw [hU]; exact hS.2.1 a h1 h2) hZ⟩
  obtain ⟨Cq, hCq⟩ : ∃ r : vw_C, pgCl[ci]? = some r := by
    obtain ⟨r, hr, -⟩ := hP q _ (pg_wd_at hsh)
    exact ⟨r, hr⟩
  obtain ⟨cellB, hcell, hnst, hcls⟩ := va_recv hK hP hCq (pg_wd_at (K := K) (ad := ad) (h := h) hsh)
  have hCn : Cq.1 = Mc.1.cls := by
    rw [hF5, ← hci]
    rcases (show ci < 10 by exact (List.getElem?_eq_some_iff.mp hCq).1) with hlt
    match ci, hlt, hCq with
    | 0, _, h => cases h; rfl
    | 1, _, h => cases h; rfl
    | 2, _, h => cases h; rfl
    | 3, _, h => cases h; rfl
    | 4, _, h => cases h; rfl
    | 5, _, h => cases h; rfl
    | 6, _, h => cases h; rfl
    | 7, _, h => cases h; rfl
    | 8, _, h => cases h; rfl
    | 9, _, h => cases h; rfl
    | k + 10, hlt, _ => exact absurd hlt (by omega)
  rw [hCn] at hcls
  have hcb : CallB R s args (pgR o) ix Mc.1 Mc.2.1 Mc.2.2.1 Mc.2.2.2.1 (Cond.code Mc.1 Mc.2.1 Mc.2.2.1 Mc.2.2.2.1 :: pg_tb) (pg_rm Mc) 0 0 n :=
    callB_of n hts (pg_goodC hF3) rfl rfl rfl (hts _ hF2) (hts _ hlink) hF4 hR
  have hrun := va_runV (H := H) (locs := locs) (cells := cells) (slots := slots) (below := below) (e := e) (meth := meth) (As := as0.map (pg_cv ad)) (rest := rest) (b := ad q) (g := F0 m pc ls ((as0.map (pg_cv ad)).reverse ++ .ref (ad q) :: rest)) (C := Mc.1.cls) ⟨hx, hb, hml, hown, hts⟩ hM ⟨hcb, hts _ hF1.1, hts _ hF1.2⟩ ⟨pg_blind (.inr (.inr q) :: as0) h H.size, ⟨cellB, hcell, hnst, hcls⟩, hPU⟩ rfl (by rw [List.length_map]; exact hn) hls rfl (lv_room hsum) hd hf
  intro T hT X
  obtain ⟨v, st₀, t, T', L, h0, X', hL, e1, e2, ⟨⟨r, h', hq, hv, hP'⟩, hz, hk⟩, stp⟩ := hrun T hT X
  rw [h0] at hz hk
  have hv' : v = r.map (pg_cv ad) := Option.some.inj (by cases hv; rfl)
  subst hv'
  have hS' : va_S A s.heap T'.heap (locs ++ L) := ⟨Nat.le_trans hS.1 (by rw [e1]; exact hz), fun q h1 h2 => by rw [e1, hk q (Nat.lt_of_lt_of_le h1 hS.1) (fun z => h2 (hAi q z))]; exact hS.2.1 q h1 h2, fun q hq => by
      rcases List.mem_append.mp hq with h | h
      · exact hS.2.2 q h
      · exact hAi _ (hL q h)⟩
  obtain ⟨t2, a1, b1⟩ := kk r h' T'.heap (locs ++ L) hq (by rw [e1]; exact hP') (pg_D hD) (fun q h1 h2 => by rw [e1]; exact hk q h1 h2) hS' T' rfl X'
  exact ⟨t2, stp t2 a1, b1⟩
end KCALL
