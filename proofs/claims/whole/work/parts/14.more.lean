/-! fewer locals; reads of a written heap -/
def pg_pk (lv : pg_L) (ks : List Nat) : pg_L := ks.filterMap (fun k => pg_nth lv k)
theorem pg_pick {b : Bool} {M : pg_M} {Q : Option pg_V → pg_H → Prop} {pc : Nat} {lv lv' : pg_L} {stk : List pg_V} {h : pg_H} (ks : List Nat) (hk : pg_pk lv ks = lv') (hg : pg_Good b M Q (pc, lv', stk, h)) : pg_Good b M Q (pc, lv, stk, h) := by
  intro p l e R s m args below meth c K D ad A hX H locs ls hl hP hD hS
  refine hg p l e R s m args below meth c K D ad A hX H locs ls ⟨hl.1, hl.2.1, fun q hq => hl.2.2 q ?_⟩ hP hD hS
  obtain ⟨q0, h0, rfl⟩ := List.mem_map.mp hq
  have h0 : q0 ∈ lv' := h0
  rw [← hk] at h0
  obtain ⟨k, -, h1⟩ := List.mem_filterMap.mp h0
  rw [pg_nth_eq] at h1
  exact List.mem_map.mpr ⟨q0, List.mem_of_getElem? h1, rfl⟩
theorem pg_up_at (h : pg_H) (q i : Nat) (z : Int) (j : Nat) : pg_up h q i z q j = if j = i then z else h q j := by
  rw [pg_up_q]
  by_cases hj : j = i
  · subst hj; simp
  · have : Nat.beq j i = false := by rw [pg_beq]; simp [hj]
    simp [hj, this]
theorem pg_up_ne (h : pg_H) {q q' : Nat} (i : Nat) (z : Int) (hn : q' ≠ q) : pg_up h q i z q' = h q' := pg_up_n h i z hn
/-- a heap is as another but for some cells -/
def pg_fr (cs : List Nat) (h h' : pg_H) : Prop := ∀ q, q ∉ cs → h' q = h q
theorem pg_fr_rf (cs : List Nat) (h : pg_H) : pg_fr cs h h := fun _ _ => rfl
theorem pg_fr_up {cs : List Nat} {h h' : pg_H} (hf : pg_fr cs h h') {q : Nat} (hq : q ∈ cs) (i : Nat) (z : Int) : pg_fr cs h (pg_up h' q i z) := fun q' hn => by
  rw [pg_up_n h' i z (fun e => hn (by rw [e]; exact hq))]
  exact hf q' hn
theorem pg_fr_tr {cs ds : List Nat} {h h' h'' : pg_H} (hf : pg_fr cs h h') (hg : pg_fr ds h' h'') (hs : ∀ q ∈ ds, q ∈ cs) : pg_fr cs h h'' := fun q hn => by
  rw [hg q (fun hm => hn (hs q hm)), hf q hn]
