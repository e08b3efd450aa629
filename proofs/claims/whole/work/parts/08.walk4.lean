set_option maxHeartbeats 4000000 in
set_option maxRecDepth 100000 in
theorem w_X9_copy_L2 {p : Program} {l : Launch} {e : Env} {s : State} {m : MethodId} {args : Array Value} {below : List Frame} {meth : Method} {c : Code} {D : va_G} {ca : Nat → ClassId} {A : Nat → Prop} {Q : State → Prop} (N : Nat) : ∀ (n : Nat) {σ : zS} {v0 : Nat} {v1 : Nat} {v2 : Int32} {σ' : zS} {H : Heap} {locs : List Loc} {ls : Array Slot}, m_X9_copy_L2 N n σ v0 v1 v2 = some σ' → zC p s m args c RX9 cX9_copy 3 D ca A → zW D ca A σ H → va_S A s.heap H locs → lv_has ls 3 [(0, .ref v0), (1, .ref v1), (2, .int v2)] → (∀ (H : Heap) (locs : List Loc) (ls : Array Slot), zW D ca A σ' H → va_S A s.heap H locs → lv_has ls 3 [] → W p l e ({ frames := 0, cells := 0, slots := 0, locals := 0 } : Room) s m args below meth c H locs 0 0 Q (F0 m 21 ls [])) → W p l e ({ frames := 0, cells := 0, slots := 0, locals := 0 } : Room) s m args below meth c H locs 0 0 Q (F0 m 2 ls []) := by
  intro n
  induction n with
  | zero =>
    intro σ v0 v1 v2 σ' H locs ls hm C0 hW hS hl kk
    rw [m_X9_copy_L2] at hm
    cases hm
  | succ n ih =>
    intro σ v0 v1 v2 σ' H locs ls hm C0 hW hS hl kk
    rw [m_X9_copy_L2] at hm
    have hx := C0.1
    have hb := C0.2.1
    refine lv_iload_n hx hb dX9_copy_2 rfl (lv_at hl 2 rfl) ?_
    refine lv_sipush (v := 6165) hx hb dX9_copy_3 (by decide) ?_
    refine lv_icmp_ge (tgt := 21) hx hb dX9_copy_6 (by decide) (fun h1 => ?_) (fun h1 => ?_)
    · rw [if_pos h1] at hm
      cases hm
      exact kk _ _ _ hW hS (lv_sub hl [] rfl)
    · rw [if_neg h1] at hm
      refine lv_aload_n hx hb dX9_copy_9 rfl (lv_at hl 1 rfl) ?_
      refine lv_iload_n hx hb dX9_copy_10 rfl (lv_at hl 2 rfl) ?_
      refine lv_aload_n hx hb dX9_copy_11 rfl (lv_at hl 0 rfl) ?_
      refine lv_iload_n hx hb dX9_copy_12 rfl (lv_at hl 2 rfl) ?_
      replace hm := ob hm; obtain ⟨x2, e3, hm⟩ := hm
      refine r_aI C0 hW e3 dX9_copy_13 ?_
      replace hm := ob hm; obtain ⟨σ4, e5, hm⟩ := hm
      refine r_uI C0 hW hS e5 dX9_copy_14 (fun H locs hW hS => ?_)
      replace hm := ob hm; obtain ⟨x6, e7, hm⟩ := hm
      refine lv_iinc (v := x6) (lv' := [(2, .int x6), (0, .ref v0), (1, .ref v1)]) hx hb dX9_copy_15 hl (k := 2) rfl (Option.some.inj e7) (by decide) rfl (fun ls hl => ?_)
      refine lv_goto (tgt := 2) hx hb dX9_copy_18 (by decide) ?_
      exact ih hm C0 hW hS (lv_sub hl [1, 2, 0] rfl) kk
set_option maxHeartbeats 4000000 in
set_option maxRecDepth 100000 in
theorem b_X9_copy {l : Launch} {D : va_G} {ca : Nat → ClassId} {A : Nat → Prop} {N : Nat} {σ : zS} {v0 : Nat} {v1 : Nat} {σ' : zS} (hm : m_X9_copy N σ v0 v1 = some σ') : Met l yX9_copy (.code yX9_copy cX9_copy 3 none :: wsL_law) ({ frames := 0, cells := 0, slots := 0, locals := 0 } : Room) (va_Pc [.ref v0, .ref v1] (zP D ca A σ)) (zQv D ca A σ') 0 0 A := by
  refine zMk (by decide +kernel) (Nat.le_of_ble_eq_true rfl) ?_
  intro p e s m below meth c C0 hr hlocks hin hW ls hl
  have hx := C0.1
  have hb := C0.2.1
  have hS : va_S A s.heap s.heap [] := va_S.rf
  have hl : lv_has ls 3 [(0, .ref v0), (1, .ref v1)] := hl
  unfold m_X9_copy at hm
  refine lv_iconst (v := 0) hx hb dX9_copy_0 (by decide) ?_
  refine lv_istore_n (lv' := [(2, .int 0), (0, .ref v0), (1, .ref v1)]) hx hb dX9_copy_1 rfl hl (by decide) rfl (fun ls hl => ?_)
  replace hm := ob hm; obtain ⟨σ8, e9, hm⟩ := hm
  refine w_X9_copy_L2 N N e9 C0 hW hS (lv_sub hl [1, 2, 0] rfl) (fun H locs ls hW hS hl => ?_)
  cases hm
  exact r_vret C0 hr hlocks hW hS dX9_copy_21
set_option maxHeartbeats 4000000 in
set_option maxRecDepth 100000 in
theorem b_X9_in {l : Launch} {D : va_G} {ca : Nat → ClassId} {A : Nat → Prop} {N : Nat} {σ : zS} {v0 : Int32} {v1 : Int32} {v2 : Int32} {r0 : Int32} (hm : m_X9_in N σ v0 v1 v2 = some r0) : Met l yX9_in (.code yX9_in cX9_in 3 (some .boolean) :: wsL_law) ({ frames := 0, cells := 0, slots := 0, locals := 0 } : Room) (va_Pc [.int v0, .int v1, .int v2] (zP D ca A σ)) (zQi r0 D ca A σ) 0 0 A := by
  refine zMk (by decide +kernel) (Nat.le_of_ble_eq_true rfl) ?_
  intro p e s m below meth c C0 hr hlocks hin hW ls hl
  have hx := C0.1
  have hb := C0.2.1
  have hS : va_S A s.heap s.heap [] := va_S.rf
  have hl : lv_has ls 3 [(0, .int v0), (1, .int v1), (2, .int v2)] := hl
  unfold m_X9_in at hm
  refine lv_iload_n hx hb dX9_in_0 rfl (lv_at hl 0 rfl) ?_
  refine lv_iload_n hx hb dX9_in_1 rfl (lv_at hl 1 rfl) ?_
  refine lv_icmp_lt (tgt := 14) hx hb dX9_in_2 (by decide) (fun h1 => ?_) (fun h1 => ?_)
  · rw [if_pos h1] at hm
    refine lv_iconst (v := 0) hx hb dX9_in_14 (by decide) ?_
    cases hm
    exact r_zret C0 hr rfl hlocks hW hS dX9_in_15
  · rw [if_neg h1] at hm
    refine lv_iload_n hx hb dX9_in_5 rfl (lv_at hl 0 rfl) ?_
    refine lv_iload_n hx hb dX9_in_6 rfl (lv_at hl 2 rfl) ?_
    refine lv_icmp_gt (tgt := 14) hx hb dX9_in_7 (by decide) (fun h2 => ?_) (fun h2 => ?_)
    · rw [if_pos h2] at hm
      refine lv_iconst (v := 0) hx hb dX9_in_14 (by decide) ?_
      cases hm
      exact r_zret C0 hr rfl hlocks hW hS dX9_in_15
    · rw [if_neg h2] at hm
      refine lv_iconst (v := 1) hx hb dX9_in_10 (by decide) ?_
      refine lv_goto (tgt := 15) hx hb dX9_in_11 (by decide) ?_
      cases hm
      exact r_zret C0 hr rfl hlocks hW hS dX9_in_15
set_option maxHeartbeats 4000000 in
set_option maxRecDepth 100000 in
theorem b_X9_isTable {l : Launch} {D : va_G} {ca : Nat → ClassId} {A : Nat → Prop} {N : Nat} {σ : zS} {v0 : Nat} {v1 : Int32} {r0 : Int32} (hm : m_X9_isTable N σ v0 v1 = some r0) : Met l yX9_isTable (.code yX9_isTable cX9_isTable 2 (some .boolean) :: wsL_law) ({ frames := 1, cells := 0, slots := 0, locals := 22 } : Room) (va_Pc [.ref v0, .int v1] (zP D ca A σ)) (zQi r0 D ca A σ) 0 0 A := by
  refine zMk (by decide +kernel) (Nat.le_of_ble_eq_true rfl) ?_
  intro p e s m below meth c C0 hr hlocks hin hW ls hl
  have hx := C0.1
  have hb := C0.2.1
  have hS : va_S A s.heap s.heap [] := va_S.rf
  have hl : lv_has ls 2 [(0, .ref v0), (1, .int v1)] := hl
  unfold m_X9_isTable at hm
  refine lv_iload_n hx hb dX9_isTable_0 rfl (lv_at hl 1 rfl) ?_
  refine lv_iconst (v := 0) hx hb dX9_isTable_1 (by decide) ?_
  refine lv_aload_n hx hb dX9_isTable_2 rfl (lv_at hl 0 rfl) ?_
  replace hm := ob hm; obtain ⟨a1, e2, hm⟩ := hm
  refine r_getA C0 hW fl_X9_7 e2 dX9_isTable_3 ?_
  refine lv_sipush (v := 138) hx hb dX9_isTable_6 (by decide) ?_
  replace hm := ob hm; obtain ⟨x3, e4, hm⟩ := hm
  refine r_aI C0 hW e4 dX9_isTable_9 ?_
  refine lv_iconst (v := 1) hx hb dX9_isTable_10 (by decide) ?_
  refine lv_isub hx hb dX9_isTable_11 ?_
  replace hm := ob hm; obtain ⟨x6, e5, hm⟩ := hm
  refine z_calli (z_runS (As := [.int v1, .int 0, .int (x3 - 1)]) (rest := []) C0 ls_X9_49 (b_X9_in e5) hW hS rfl hl.1 rfl (Nat.le_of_ble_eq_true rfl) dX9_isTable_12 rfl rfl ⟨Nat.le_of_ble_eq_true rfl, Nat.le_of_ble_eq_true rfl⟩ ⟨Nat.le_refl _, Nat.le_refl _⟩) hS (fun H locs hW hS => ?_)
  replace hm := ob hm; obtain ⟨x7, e8, hm⟩ := hm
  obtain ⟨hq, hq2⟩ := nar_z e8
  rw [hq]
  cases hm
  exact r_zret C0 hr hq2 hlocks hW hS dX9_isTable_15
set_option maxHeartbeats 4000000 in
set_option maxRecDepth 100000 in
theorem b_X9_isThing {l : Launch} {D : va_G} {ca : Nat → ClassId} {A : Nat → Prop} {N : Nat} {σ : zS} {v0 : Int32} {r0 : Int32} (hm : m_X9_isThing N σ v0 = some r0) : Met l yX9_isThing (.code yX9_isThing cX9_isThing 1 (some .boolean) :: wsL_law) ({ frames := 1, cells := 0, slots := 0, locals := 22 } : Room) (va_Pc [.int v0] (zP D ca A σ)) (zQi r0 D ca A σ) 0 0 A := by
  refine zMk (by decide +kernel) (Nat.le_of_ble_eq_true rfl) ?_
  intro p e s m below meth c C0 hr hlocks hin hW ls hl
  have hx := C0.1
  have hb := C0.2.1
  have hS : va_S A s.heap s.heap [] := va_S.rf
  have hl : lv_has ls 1 [(0, .int v0)] := hl
  unfold m_X9_isThing at hm
  refine lv_iload_n hx hb dX9_isThing_0 rfl (lv_at hl 0 rfl) ?_
  refine lv_iconst (v := 0) hx hb dX9_isThing_1 (by decide) ?_
  refine lv_sipush (v := 999) hx hb dX9_isThing_2 (by decide) ?_
  replace hm := ob hm; obtain ⟨x2, e1, hm⟩ := hm
  refine z_calli (z_runS (As := [.int v0, .int 0, .int 999]) (rest := []) C0 ls_X9_49 (b_X9_in e1) hW hS rfl hl.1 rfl (Nat.le_of_ble_eq_true rfl) dX9_isThing_5 rfl rfl ⟨Nat.le_of_ble_eq_true rfl, Nat.le_of_ble_eq_true rfl⟩ ⟨Nat.le_refl _, Nat.le_refl _⟩) hS (fun H locs hW hS => ?_)
  replace hm := ob hm; obtain ⟨x3, e4, hm⟩ := hm
  obtain ⟨hq, hq2⟩ := nar_z e4
  rw [hq]
  cases hm
  exact r_zret C0 hr hq2 hlocks hW hS dX9_isThing_8
set_option maxHeartbeats 4000000 in
set_option maxRecDepth 100000 in
theorem b_X9_hashOf {l : Launch} {D : va_G} {ca : Nat → ClassId} {A : Nat → Prop} {N : Nat} {σ : zS} {v0 : Int32} {v1 : Int32} {r0 : Int32} (hm : m_X9_hashOf N σ v0 v1 = some r0) : Met l yX9_hashOf (.code yX9_hashOf cX9_hashOf 3 (some .int) :: wsL_law) ({ frames := 0, cells := 0, slots := 0, locals := 0 } : Room) (va_Pc [.int v0, .int v1] (zP D ca A σ)) (zQi r0 D ca A σ) 0 0 A := by
  refine zMk (by decide +kernel) (Nat.le_of_ble_eq_true rfl) ?_
  intro p e s m below meth c C0 hr hlocks hin hW ls hl
  have hx := C0.1
  have hb := C0.2.1
  have hS : va_S A s.heap s.heap [] := va_S.rf
  have hl : lv_has ls 3 [(0, .int v0), (1, .int v1)] := hl
  unfold m_X9_hashOf at hm
  refine lv_iload_n hx hb dX9_hashOf_0 rfl (lv_at hl 0 rfl) ?_
  refine lv_ldc (v := 40503) hx hb C0.2.2.2.1 (C0.2.2.2.2.1 _ (zin_17 _ (List.mem_of_getElem? (i := 10) rfl))) dX9_hashOf_1 ?_
  refine lv_imul hx hb dX9_hashOf_3 ?_
  refine lv_iload_n hx hb dX9_hashOf_4 rfl (lv_at hl 1 rfl) ?_
  refine lv_sipush (v := 9973) hx hb dX9_hashOf_5 (by decide) ?_
  refine lv_imul hx hb dX9_hashOf_8 ?_
  refine lv_iadd hx hb dX9_hashOf_9 ?_
  refine lv_sipush (v := 7919) hx hb dX9_hashOf_10 (by decide) ?_
  refine lv_iadd hx hb dX9_hashOf_13 ?_
  refine lv_ldc (v := 65536) hx hb C0.2.2.2.1 (C0.2.2.2.2.1 _ (zin_17 _ (List.mem_of_getElem? (i := 11) rfl))) dX9_hashOf_14 ?_
  refine r_irem hx hb dX9_hashOf_16 (by decide) ?_
  replace hm := ob hm; obtain ⟨x1, e2, hm⟩ := hm
  refine z_top e2 ?_
  refine lv_istore_n (lv' := [(2, .int x1), (0, .int v0), (1, .int v1)]) hx hb dX9_hashOf_17 rfl hl (by decide) rfl (fun ls hl => ?_)
  refine lv_iload_n hx hb dX9_hashOf_18 rfl (lv_at hl 0 rfl) ?_
  refine lv_iload_n hx hb dX9_hashOf_19 rfl (lv_at hl 0 rfl) ?_
  refine lv_sipush (v := 128) hx hb dX9_hashOf_20 (by decide) ?_
  refine lv_idiv hx hb dX9_hashOf_23 (by decide) ?_
  refine lv_ixor hx hb dX9_hashOf_24 ?_
  refine lv_sipush (v := 25173) hx hb dX9_hashOf_25 (by decide) ?_
  refine lv_imul hx hb dX9_hashOf_28 ?_
  refine lv_ldc (v := 65536) hx hb C0.2.2.2.1 (C0.2.2.2.2.1 _ (zin_17 _ (List.mem_of_getElem? (i := 11) rfl))) dX9_hashOf_29 ?_
  refine r_irem hx hb dX9_hashOf_31 (by decide) ?_
  replace hm := ob hm; obtain ⟨x3, e4, hm⟩ := hm
  refine z_top e4 ?_
  refine lv_istore_n (lv' := [(2, .int x3), (0, .int v0), (1, .int v1)]) hx hb dX9_hashOf_32 rfl hl (by decide) rfl (fun ls hl => ?_)
  refine lv_iload_n hx hb dX9_hashOf_33 rfl (lv_at hl 0 rfl) ?_
  refine lv_iload_n hx hb dX9_hashOf_34 rfl (lv_at hl 0 rfl) ?_
  refine lv_sipush (v := 256) hx hb dX9_hashOf_35 (by decide) ?_
  refine lv_idiv hx hb dX9_hashOf_38 (by decide) ?_
  refine lv_ixor hx hb dX9_hashOf_39 ?_
  cases hm
  exact r_iret C0 hr hlocks hW hS dX9_hashOf_40
set_option maxHeartbeats 4000000 in
set_option maxRecDepth 100000 in
theorem w_X9_keepHash_L2 {p : Program} {l : Launch} {e : Env} {s : State} {m : MethodId} {args : Array Value} {below : List Frame} {meth : Method} {c : Code} {D : va_G} {ca : Nat → ClassId} {A : Nat → Prop} {Q : State → Prop} (N : Nat) : ∀ (n : Nat) {σ : zS} {v0 : Nat} {v1 : Int32} {v2 : Int32} {v3 : Int32} {y3 : Int32} {H : Heap} {locs : List Loc} {ls : Array Slot}, m_X9_keepHash_L2 N n σ v0 v1 v2 v3 = some y3 → zC p s m args c RX9 cX9_keepHash 7 D ca A → zW D ca A σ H → va_S A s.heap H locs → lv_has ls 7 [(0, .ref v0), (1, .int v1), (2, .int v2), (3, .int v3)] → (∀ (H : Heap) (locs : List Loc) (ls : Array Slot), zW D ca A σ H → va_S A s.heap H locs → lv_has ls 7 [(0, .ref v0), (1, .int v1), (2, .int v2), (3, .int y3)] → W p l e ({ frames := 0, cells := 0, slots := 0, locals := 0 } : Room) s m args below meth c H locs 0 0 Q (F0 m 29 ls [])) → W p l e ({ frames := 0, cells := 0, slots := 0, locals := 0 } : Room) s m args below meth c H locs 0 0 Q (F0 m 2 ls []) := by
  intro n
  induction n with
  | zero =>
    intro σ v0 v1 v2 v3 y3 H locs ls hm C0 hW hS hl kk
    rw [m_X9_keepHash_L2] at hm
    cases hm
  | succ n ih =>
    intro σ v0 v1 v2 v3 y3 H locs ls hm C0 hW hS hl kk
    rw [m_X9_keepHash_L2] at hm
    have hx := C0.1
    have hb := C0.2.1
    refine lv_iload_n hx hb dX9_keepHash_2 rfl (lv_at hl 3 rfl) ?_
    refine lv_aload_n hx hb dX9_keepHash_3 rfl (lv_at hl 0 rfl) ?_
    refine lv_iload_n hx hb dX9_keepHash_4 rfl (lv_at hl 1 rfl) ?_
    refine lv_iconst (v := 5) hx hb dX9_keepHash_5 (by decide) ?_
    refine lv_iadd hx hb dX9_keepHash_6 ?_
    replace hm := ob hm; obtain ⟨x1, e2, hm⟩ := hm
    refine r_aI C0 hW e2 dX9_keepHash_7 ?_
    refine lv_icmp_ge (tgt := 29) hx hb dX9_keepHash_8 (by decide) (fun h3 => ?_) (fun h3 => ?_)
    · rw [if_pos h3] at hm
      cases hm
      exact kk _ _ _ hW hS (lv_sub hl [0, 1, 2, 3] rfl)
    · rw [if_neg h3] at hm
      refine lv_aload_n hx hb dX9_keepHash_11 rfl (lv_at hl 0 rfl) ?_
      refine lv_iload_n hx hb dX9_keepHash_12 rfl (lv_at hl 1 rfl) ?_
      refine lv_bipush (v := 6) hx hb dX9_keepHash_13 (by decide) ?_
      refine lv_iadd hx hb dX9_keepHash_15 ?_
      refine lv_iload_n hx hb dX9_keepHash_16 rfl (lv_at hl 3 rfl) ?_
      refine lv_iadd hx hb dX9_keepHash_17 ?_
      replace hm := ob hm; obtain ⟨x4, e5, hm⟩ := hm
      refine r_aI C0 hW e5 dX9_keepHash_18 ?_
      refine lv_iload_n hx hb dX9_keepHash_19 rfl (lv_at hl 2 rfl) ?_
      refine lv_icmp_ge (tgt := 29) hx hb dX9_keepHash_20 (by decide) (fun h6 => ?_) (fun h6 => ?_)
      · rw [if_pos h6] at hm
        cases hm
        exact kk _ _ _ hW hS (lv_sub hl [0, 1, 2, 3] rfl)
      · rw [if_neg h6] at hm
        replace hm := ob hm; obtain ⟨x7, e8, hm⟩ := hm
        refine lv_iinc (v := x7) (lv' := [(3, .int x7), (0, .ref v0), (1, .int v1), (2, .int v2)]) hx hb dX9_keepHash_23 hl (k := 3) rfl (Option.some.inj e8) (by decide) rfl (fun ls hl => ?_)
        refine lv_goto (tgt := 2) hx hb dX9_keepHash_26 (by decide) ?_
        exact ih hm C0 hW hS (lv_sub hl [1, 2, 3, 0] rfl) kk
set_option maxHeartbeats 4000000 in
set_option maxRecDepth 100000 in
theorem w_X9_keepHash_L95 {p : Program} {l : Launch} {e : Env} {s : State} {m : MethodId} {args : Array Value} {below : List Frame} {meth : Method} {c : Code} {D : va_G} {ca : Nat → ClassId} {A : Nat → Prop} {Q : State → Prop} (N : Nat) : ∀ (n : Nat) {σ : zS} {v0 : Nat} {v1 : Int32} {v2 : Int32} {v3 : Int32} {v5 : Int32} {v6 : Int32} {σ' : zS} {H : Heap} {locs : List Loc} {ls : Array Slot}, m_X9_keepHash_L95 N n σ v0 v1 v2 v3 v5 v6 = some σ' → zC p s m args c RX9 cX9_keepHash 7 D ca A → zW D ca A σ H → va_S A s.heap H locs → lv_has ls 7 [(0, .ref v0), (1, .int v1), (2, .int v2), (3, .int v3), (5, .int v5), (6, .int v6)] → (∀ (H : Heap) (locs : List Loc) (ls : Array Slot), zW D ca A σ' H → va_S A s.heap H locs → lv_has ls 7 [(0, .ref v0), (1, .int v1), (2, .int v2), (3, .int v3), (5, .int v5)] → W p l e ({ frames := 0, cells := 0, slots := 0, locals := 0 } : Room) s m args below meth c H locs 0 0 Q (F0 m 127 ls [])) → W p l e ({ frames := 0, cells := 0, slots := 0, locals := 0 } : Room) s m args below meth c H locs 0 0 Q (F0 m 95 ls []) := by
  intro n
  induction n with
  | zero =>
    intro σ v0 v1 v2 v3 v5 v6 σ' H locs ls hm C0 hW hS hl kk
    rw [m_X9_keepHash_L95] at hm
    cases hm
  | succ n ih =>
    intro σ v0 v1 v2 v3 v5 v6 σ' H locs ls hm C0 hW hS hl kk
    rw [m_X9_keepHash_L95] at hm
    have hx := C0.1
    have hb := C0.2.1
    refine lv_iload hx hb dX9_keepHash_95 (lv_at hl 5 rfl) ?_
    refine lv_iload_n hx hb dX9_keepHash_97 rfl (lv_at hl 3 rfl) ?_
    refine lv_icmp_le (tgt := 127) hx hb dX9_keepHash_98 (by decide) (fun h28 => ?_) (fun h28 => ?_)
    · rw [if_pos h28] at hm
      cases hm
      exact kk _ _ _ hW hS (lv_sub hl [0, 1, 2, 3, 4] rfl)
    · rw [if_neg h28] at hm
      refine lv_aload_n hx hb dX9_keepHash_101 rfl (lv_at hl 0 rfl) ?_
      refine lv_iload_n hx hb dX9_keepHash_102 rfl (lv_at hl 1 rfl) ?_
      refine lv_bipush (v := 6) hx hb dX9_keepHash_103 (by decide) ?_
      refine lv_iadd hx hb dX9_keepHash_105 ?_
      refine lv_iload hx hb dX9_keepHash_106 (lv_at hl 5 rfl) ?_
      refine lv_iadd hx hb dX9_keepHash_108 ?_
      refine lv_aload_n hx hb dX9_keepHash_109 rfl (lv_at hl 0 rfl) ?_
      refine lv_iload_n hx hb dX9_keepHash_110 rfl (lv_at hl 1 rfl) ?_
      refine lv_bipush (v := 6) hx hb dX9_keepHash_111 (by decide) ?_
      refine lv_iadd hx hb dX9_keepHash_113 ?_
      refine lv_iload hx hb dX9_keepHash_114 (lv_at hl 5 rfl) ?_
      refine lv_iadd hx hb dX9_keepHash_116 ?_
      refine lv_iconst (v := 1) hx hb dX9_keepHash_117 (by decide) ?_
      refine lv_isub hx hb dX9_keepHash_118 ?_
      replace hm := ob hm; obtain ⟨x29, e30, hm⟩ := hm
      refine r_aI C0 hW e30 dX9_keepHash_119 ?_
      replace hm := ob hm; obtain ⟨σ31, e32, hm⟩ := hm
      refine r_uI C0 hW hS e32 dX9_keepHash_120 (fun H locs hW hS => ?_)
      replace hm := ob hm; obtain ⟨x33, e34, hm⟩ := hm
      refine lv_iinc (v := x33) (lv' := [(6, .int x33), (0, .ref v0), (1, .int v1), (2, .int v2), (3, .int v3), (5, .int v5)]) hx hb dX9_keepHash_121 hl (k := 5) rfl (Option.some.inj e34) (by decide) rfl (fun ls hl => ?_)
      refine lv_goto (tgt := 95) hx hb dX9_keepHash_124 (by decide) ?_
      exact ih hm C0 hW hS (lv_sub hl [1, 2, 3, 4, 5, 0] rfl) kk
set_option maxHeartbeats 4000000 in
set_option maxRecDepth 100000 in
theorem b_X9_keepHash {l : Launch} {D : va_G} {ca : Nat → ClassId} {A : Nat → Prop} {N : Nat} {σ : zS} {v0 : Nat} {v1 : Int32} {v2 : Int32} {σ' : zS} (hm : m_X9_keepHash N σ v0 v1 v2 = some σ') : Met l yX9_keepHash (.code yX9_keepHash cX9_keepHash 7 none :: wsL_law) ({ frames := 0, cells := 0, slots := 0, locals := 0 } : Room) (va_Pc [.ref v0, .int v1, .int v2] (zP D ca A σ)) (zQv D ca A σ') 0 0 A := by
  refine zMk (by decide +kernel) (Nat.le_of_ble_eq_true rfl) ?_
  intro p e s m below meth c C0 hr hlocks hin hW ls hl
  have hx := C0.1
  have hb := C0.2.1
  have hS : va_S A s.heap s.heap [] := va_S.rf
  have hl : lv_has ls 7 [(0, .ref v0), (1, .int v1), (2, .int v2)] := hl
  unfold m_X9_keepHash at hm
  refine lv_iconst (v := 0) hx hb dX9_keepHash_0 (by decide) ?_
  refine lv_istore_n (lv' := [(3, .int 0), (0, .ref v0), (1, .int v1), (2, .int v2)]) hx hb dX9_keepHash_1 rfl hl (by decide) rfl (fun ls hl => ?_)
  replace hm := ob hm; obtain ⟨y9, e10, hm⟩ := hm
  refine w_X9_keepHash_L2 N N e10 C0 hW hS (lv_sub hl [1, 2, 3, 0] rfl) (fun H locs ls hW hS hl => ?_)
  refine lv_iload_n hx hb dX9_keepHash_29 rfl (lv_at hl 3 rfl) ?_
  refine lv_aload_n hx hb dX9_keepHash_30 rfl (lv_at hl 0 rfl) ?_
  refine lv_iload_n hx hb dX9_keepHash_31 rfl (lv_at hl 1 rfl) ?_
  refine lv_iconst (v := 5) hx hb dX9_keepHash_32 (by decide) ?_
  refine lv_iadd hx hb dX9_keepHash_33 ?_
  replace hm := ob hm; obtain ⟨x11, e12, hm⟩ := hm
  refine r_aI C0 hW e12 dX9_keepHash_34 ?_
  replace hm := ob hm; obtain ⟨y18, e42, hm⟩ := hm
  have J55_13 : ∀ (H : Heap) (locs : List Loc) (ls : Array Slot), zW D ca A σ H → va_S A s.heap H locs → lv_has ls 7 [(0, .ref v0), (1, .int v1), (2, .int v2), (3, .int y9)] → W p l e ({ frames := 0, cells := 0, slots := 0, locals := 0 } : Room) s m (List.toArray [.ref v0, .int v1, .int v2]) below meth c H locs 0 0 (MQ below (zQv D ca A σ') (List.toArray [.ref v0, .int v1, .int v2]) s 0 0 A) (F0 m 55 ls [.int y18]) := by
    intro H locs ls hW hS hl
    refine lv_istore (lv' := [(4, .int y18), (0, .ref v0), (1, .int v1), (2, .int v2), (3, .int y9)]) hx hb dX9_keepHash_55 hl (by decide) rfl (fun ls hl => ?_)
    refine lv_iload hx hb dX9_keepHash_57 (lv_at hl 0 rfl) ?_
    refine lv_if_ne (tgt := 68) hx hb dX9_keepHash_59 (by decide) (fun h19 => ?_) (fun h19 => ?_)
    · rw [if_neg h19] at hm
      cases hm
      exact r_vret C0 hr hlocks hW hS dX9_keepHash_68
    · rw [if_pos h19] at hm
      refine lv_iload_n hx hb dX9_keepHash_62 rfl (lv_at hl 4 rfl) ?_
      refine lv_bipush (v := 8) hx hb dX9_keepHash_63 (by decide) ?_
      refine lv_icmp_ne (tgt := 69) hx hb dX9_keepHash_65 (by decide) (fun h20 => ?_) (fun h20 => ?_)
      · rw [if_neg h20] at hm
        refine lv_aload_n hx hb dX9_keepHash_69 rfl (lv_at hl 1 rfl) ?_
        refine lv_iload_n hx hb dX9_keepHash_70 rfl (lv_at hl 2 rfl) ?_
        refine lv_iconst (v := 5) hx hb dX9_keepHash_71 (by decide) ?_
        refine lv_iadd hx hb dX9_keepHash_72 ?_
        replace hm := ob hm; obtain ⟨x21, e22, hm⟩ := hm
        refine r_aI C0 hW e22 dX9_keepHash_73 ?_
        refine lv_bipush (v := 8) hx hb dX9_keepHash_74 (by decide) ?_
        replace hm := ob hm; obtain ⟨y27, e41, hm⟩ := hm
        have J89_23 : ∀ (H : Heap) (locs : List Loc) (ls : Array Slot), zW D ca A σ H → va_S A s.heap H locs → lv_has ls 7 [(0, .ref v0), (1, .int v1), (2, .int v2), (3, .int y9)] → W p l e ({ frames := 0, cells := 0, slots := 0, locals := 0 } : Room) s m (List.toArray [.ref v0, .int v1, .int v2]) below meth c H locs 0 0 (MQ below (zQv D ca A σ') (List.toArray [.ref v0, .int v1, .int v2]) s 0 0 A) (F0 m 89 ls [.int y27]) := by
          intro H locs ls hW hS hl
          refine lv_istore (lv' := [(5, .int y27), (0, .ref v0), (1, .int v1), (2, .int v2), (3, .int y9)]) hx hb dX9_keepHash_89 hl (by decide) rfl (fun ls hl => ?_)
          refine lv_iload hx hb dX9_keepHash_91 (lv_at hl 0 rfl) ?_
          refine lv_istore (lv' := [(6, .int y27), (5, .int y27), (0, .ref v0), (1, .int v1), (2, .int v2), (3, .int y9)]) hx hb dX9_keepHash_93 hl (by decide) rfl (fun ls hl => ?_)
          replace hm := ob hm; obtain ⟨σ35, e36, hm⟩ := hm
          refine w_X9_keepHash_L95 N N e36 C0 hW hS (lv_sub hl [2, 3, 4, 5, 1, 0] rfl) (fun H locs ls hW hS hl => ?_)
          refine lv_aload_n hx hb dX9_keepHash_127 rfl (lv_at hl 0 rfl) ?_
          refine lv_iload_n hx hb dX9_keepHash_128 rfl (lv_at hl 1 rfl) ?_
          refine lv_bipush (v := 6) hx hb dX9_keepHash_129 (by decide) ?_
          refine lv_iadd hx hb dX9_keepHash_131 ?_
          refine lv_iload_n hx hb dX9_keepHash_132 rfl (lv_at hl 3 rfl) ?_
          refine lv_iadd hx hb dX9_keepHash_133 ?_
          refine lv_iload_n hx hb dX9_keepHash_134 rfl (lv_at hl 2 rfl) ?_
          replace hm := ob hm; obtain ⟨σ37, e38, hm⟩ := hm
          refine r_uI C0 hW hS e38 dX9_keepHash_135 (fun H locs hW hS => ?_)
          refine lv_aload_n hx hb dX9_keepHash_136 rfl (lv_at hl 0 rfl) ?_
          refine lv_iload_n hx hb dX9_keepHash_137 rfl (lv_at hl 1 rfl) ?_
          refine lv_iconst (v := 5) hx hb dX9_keepHash_138 (by decide) ?_
          refine lv_iadd hx hb dX9_keepHash_139 ?_
          refine lv_iload hx hb dX9_keepHash_140 (lv_at hl 4 rfl) ?_
          refine lv_iconst (v := 1) hx hb dX9_keepHash_142 (by decide) ?_
          refine lv_iadd hx hb dX9_keepHash_143 ?_
          replace hm := ob hm; obtain ⟨σ39, e40, hm⟩ := hm
          refine r_uI C0 hW hS e40 dX9_keepHash_144 (fun H locs hW hS => ?_)
          cases hm
          exact r_vret C0 hr hlocks hW hS dX9_keepHash_145
        clear hm
        have hm := e41
        clear e41
        refine lv_icmp_ge (tgt := 87) hx hb dX9_keepHash_76 (by decide) (fun h23 => ?_) (fun h23 => ?_)
        · rw [if_pos h23] at hm
          refine lv_bipush (v := 7) hx hb dX9_keepHash_87 (by decide) ?_
          have hq1 := Option.some.inj hm; subst hq1
          exact J89_23 _ _ _ hW hS (lv_sub hl [1, 2, 3, 4] rfl)
        · rw [if_neg h23] at hm
          refine lv_aload_n hx hb dX9_keepHash_79 rfl (lv_at hl 1 rfl) ?_
          refine lv_iload_n hx hb dX9_keepHash_80 rfl (lv_at hl 2 rfl) ?_
          refine lv_iconst (v := 5) hx hb dX9_keepHash_81 (by decide) ?_
          refine lv_iadd hx hb dX9_keepHash_82 ?_
          replace hm := ob hm; obtain ⟨x25, e26, hm⟩ := hm
          refine r_aI C0 hW e26 dX9_keepHash_83 ?_
          refine lv_goto (tgt := 89) hx hb dX9_keepHash_84 (by decide) ?_
          have hq1 := Option.some.inj hm; subst hq1
          exact J89_23 _ _ _ hW hS (lv_sub hl [1, 2, 3, 4] rfl)
      · rw [if_pos h20] at hm
        cases hm
        exact r_vret C0 hr hlocks hW hS dX9_keepHash_68
  clear hm
  have hm := e42
  clear e42
  refine lv_icmp_ge (tgt := 54) hx hb dX9_keepHash_35 (by decide) (fun h13 => ?_) (fun h13 => ?_)
  · rw [if_pos h13] at hm
    refine lv_iconst (v := 0) hx hb dX9_keepHash_54 (by decide) ?_
    have hq1 := Option.some.inj hm; subst hq1
    exact J55_13 _ _ _ hW hS (lv_sub hl [0, 1, 2, 3] rfl)
  · rw [if_neg h13] at hm
    refine lv_aload_n hx hb dX9_keepHash_38 rfl (lv_at hl 0 rfl) ?_
    refine lv_iload_n hx hb dX9_keepHash_39 rfl (lv_at hl 1 rfl) ?_
    refine lv_bipush (v := 6) hx hb dX9_keepHash_40 (by decide) ?_
    refine lv_iadd hx hb dX9_keepHash_42 ?_
    refine lv_iload_n hx hb dX9_keepHash_43 rfl (lv_at hl 3 rfl) ?_
    refine lv_iadd hx hb dX9_keepHash_44 ?_
    replace hm := ob hm; obtain ⟨x15, e16, hm⟩ := hm
    refine r_aI C0 hW e16 dX9_keepHash_45 ?_
    refine lv_iload_n hx hb dX9_keepHash_46 rfl (lv_at hl 2 rfl) ?_
    refine lv_icmp_ne (tgt := 54) hx hb dX9_keepHash_47 (by decide) (fun h17 => ?_) (fun h17 => ?_)
    · rw [if_neg h17] at hm
      refine lv_iconst (v := 0) hx hb dX9_keepHash_54 (by decide) ?_
      have hq1 := Option.some.inj hm; subst hq1
      exact J55_13 _ _ _ hW hS (lv_sub hl [0, 1, 2, 3] rfl)
    · rw [if_pos h17] at hm
      refine lv_iconst (v := 1) hx hb dX9_keepHash_50 (by decide) ?_
      refine lv_goto (tgt := 55) hx hb dX9_keepHash_51 (by decide) ?_
      have hq1 := Option.some.inj hm; subst hq1
      exact J55_13 _ _ _ hW hS (lv_sub hl [0, 1, 2, 3] rfl)
set_option maxHeartbeats 4000000 in
set_option maxRecDepth 100000 in
theorem w_X9_rank_L11 {p : Program} {l : Launch} {e : Env} {s : State} {m : MethodId} {args : Array Value} {below : List Frame} {meth : Method} {c : Code} {D : va_G} {ca : Nat → ClassId} {A : Nat → Prop} {Q : State → Prop} (N : Nat) : ∀ (n : Nat) {σ : zS} {v1 : Int32} {v2 : Int32} {y1 : Int32} {H : Heap} {locs : List Loc} {ls : Array Slot}, m_X9_rank_L11 N n σ v1 v2 = some y1 → zC p s m args c RX9 cX9_rank 3 D ca A → zW D ca A σ H → va_S A s.heap H locs → lv_has ls 3 [(1, .int v1), (2, .int v2)] → (∀ (H : Heap) (locs : List Loc) (ls : Array Slot), zW D ca A σ H → va_S A s.heap H locs → lv_has ls 3 [(1, .int y1)] → W p l e ({ frames := 0, cells := 0, slots := 0, locals := 0 } : Room) s m args below meth c H locs 0 0 Q (F0 m 27 ls [])) → W p l e ({ frames := 0, cells := 0, slots := 0, locals := 0 } : Room) s m args below meth c H locs 0 0 Q (F0 m 11 ls []) := by
  intro n
  induction n with
  | zero =>
    intro σ v1 v2 y1 H locs ls hm C0 hW hS hl kk
    rw [m_X9_rank_L11] at hm
    cases hm
  | succ n ih =>
    intro σ v1 v2 y1 H locs ls hm C0 hW hS hl kk
    rw [m_X9_rank_L11] at hm
    have hx := C0.1
    have hb := C0.2.1
    refine lv_iload_n hx hb dX9_rank_11 rfl (lv_at hl 1 rfl) ?_
    refine lv_iconst (v := 2) hx hb dX9_rank_12 (by decide) ?_
    refine r_irem hx hb dX9_rank_13 (by decide) ?_
    refine lv_if_ne (tgt := 27) hx hb dX9_rank_14 (by decide) (fun h2 => ?_) (fun h2 => ?_)
    · rw [if_neg h2] at hm
      cases hm
      exact kk _ _ _ hW hS (lv_sub hl [0] rfl)
    · rw [if_pos h2] at hm
      refine lv_iload_n hx hb dX9_rank_17 rfl (lv_at hl 1 rfl) ?_
      refine lv_iconst (v := 2) hx hb dX9_rank_18 (by decide) ?_
      refine lv_idiv hx hb dX9_rank_19 (by decide) ?_
      replace hm := ob hm; obtain ⟨x3, e4, hm⟩ := hm
      refine z_top e4 ?_
      refine lv_istore_n (lv' := [(2, .int x3), (1, .int v1)]) hx hb dX9_rank_20 rfl hl (by decide) rfl (fun ls hl => ?_)
      replace hm := ob hm; obtain ⟨x5, e6, hm⟩ := hm
      refine lv_iinc (v := x5) (lv' := [(1, .int x5), (2, .int x3)]) hx hb dX9_rank_21 hl (k := 1) rfl (Option.some.inj e6) (by decide) rfl (fun ls hl => ?_)
      refine lv_goto (tgt := 11) hx hb dX9_rank_24 (by decide) ?_
      exact ih hm C0 hW hS (lv_sub hl [0, 1] rfl) kk
set_option maxHeartbeats 4000000 in
set_option maxRecDepth 100000 in
theorem b_X9_rank {l : Launch} {D : va_G} {ca : Nat → ClassId} {A : Nat → Prop} {N : Nat} {σ : zS} {v0 : Int32} {r0 : Int32} (hm : m_X9_rank N σ v0 = some r0) : Met l yX9_rank (.code yX9_rank cX9_rank 3 (some .int) :: wsL_law) ({ frames := 0, cells := 0, slots := 0, locals := 0 } : Room) (va_Pc [.int v0] (zP D ca A σ)) (zQi r0 D ca A σ) 0 0 A := by
  refine zMk (by decide +kernel) (Nat.le_of_ble_eq_true rfl) ?_
  intro p e s m below meth c C0 hr hlocks hin hW ls hl
  have hx := C0.1
  have hb := C0.2.1
  have hS : va_S A s.heap s.heap [] := va_S.rf
  have hl : lv_has ls 3 [(0, .int v0)] := hl
  unfold m_X9_rank at hm
  refine lv_iload_n hx hb dX9_rank_0 rfl (lv_at hl 0 rfl) ?_
  refine lv_if_ne (tgt := 7) hx hb dX9_rank_1 (by decide) (fun h1 => ?_) (fun h1 => ?_)
  · rw [if_neg h1] at hm
    refine lv_iconst (v := 1) hx hb dX9_rank_7 (by decide) ?_
    refine lv_istore_n (lv' := [(1, .int 1), (0, .int v0)]) hx hb dX9_rank_8 rfl hl (by decide) rfl (fun ls hl => ?_)
    refine lv_iload_n hx hb dX9_rank_9 rfl (lv_at hl 1 rfl) ?_
    refine lv_istore_n (lv' := [(2, .int v0), (1, .int 1), (0, .int v0)]) hx hb dX9_rank_10 rfl hl (by decide) rfl (fun ls hl => ?_)
    replace hm := ob hm; obtain ⟨y7, e8, hm⟩ := hm
    refine w_X9_rank_L11 N N e8 C0 hW hS (lv_sub hl [1, 0] rfl) (fun H locs ls hW hS hl => ?_)
    refine lv_iload_n hx hb dX9_rank_27 rfl (lv_at hl 0 rfl) ?_
    cases hm
    exact r_iret C0 hr hlocks hW hS dX9_rank_28
  · rw [if_pos h1] at hm
    refine lv_bipush (v := 14) hx hb dX9_rank_4 (by decide) ?_
    cases hm
    exact r_iret C0 hr hlocks hW hS dX9_rank_6
set_option maxHeartbeats 4000000 in
set_option maxRecDepth 100000 in
theorem b_X9_keepRegister {l : Launch} {D : va_G} {ca : Nat → ClassId} {A : Nat → Prop} {N : Nat} {σ : zS} {v0 : Nat} {v1 : Int32} {v2 : Int32} {v3 : Int32} {σ' : zS} (hm : m_X9_keepRegister N σ v0 v1 v2 v3 = some σ') : Met l yX9_keepRegister (.code yX9_keepRegister cX9_keepRegister 5 none :: wsL_law) ({ frames := 0, cells := 0, slots := 0, locals := 0 } : Room) (va_Pc [.ref v0, .int v1, .int v2, .int v3] (zP D ca A σ)) (zQv D ca A σ') 0 0 A := by
  refine zMk (by decide +kernel) (Nat.le_of_ble_eq_true rfl) ?_
  intro p e s m below meth c C0 hr hlocks hin hW ls hl
  have hx := C0.1
  have hb := C0.2.1
  have hS : va_S A s.heap s.heap [] := va_S.rf
  have hl : lv_has ls 5 [(0, .ref v0), (1, .int v1), (2, .int v2), (3, .int v3)] := hl
  unfold m_X9_keepRegister at hm
  refine lv_aload_n hx hb dX9_keepRegister_0 rfl (lv_at hl 0 rfl) ?_
  refine lv_iload_n hx hb dX9_keepRegister_1 rfl (lv_at hl 1 rfl) ?_
  refine lv_bipush (v := 14) hx hb dX9_keepRegister_2 (by decide) ?_
  refine lv_iadd hx hb dX9_keepRegister_4 ?_
  refine lv_iload_n hx hb dX9_keepRegister_5 rfl (lv_at hl 2 rfl) ?_
  refine lv_iadd hx hb dX9_keepRegister_6 ?_
  replace hm := ob hm; obtain ⟨x1, e2, hm⟩ := hm
  refine r_aI C0 hW e2 dX9_keepRegister_7 ?_
  refine lv_istore (lv' := [(4, .int x1), (0, .ref v0), (1, .int v1), (2, .int v2), (3, .int v3)]) hx hb dX9_keepRegister_8 hl (by decide) rfl (fun ls hl => ?_)
  refine lv_aload_n hx hb dX9_keepRegister_10 rfl (lv_at hl 1 rfl) ?_
  refine lv_iload_n hx hb dX9_keepRegister_11 rfl (lv_at hl 2 rfl) ?_
  refine lv_bipush (v := 14) hx hb dX9_keepRegister_12 (by decide) ?_
  refine lv_iadd hx hb dX9_keepRegister_14 ?_
  refine lv_iload_n hx hb dX9_keepRegister_15 rfl (lv_at hl 3 rfl) ?_
  refine lv_iadd hx hb dX9_keepRegister_16 ?_
  refine lv_iload_n hx hb dX9_keepRegister_17 rfl (lv_at hl 4 rfl) ?_
  refine lv_iload hx hb dX9_keepRegister_18 (lv_at hl 0 rfl) ?_
  replace hm := ob hm; obtain ⟨y5, e8, hm⟩ := hm
  have J29_3 : ∀ (H : Heap) (locs : List Loc) (ls : Array Slot), zW D ca A σ H → va_S A s.heap H locs → lv_has ls 5 [] → W p l e ({ frames := 0, cells := 0, slots := 0, locals := 0 } : Room) s m (List.toArray [.ref v0, .int v1, .int v2, .int v3]) below meth c H locs 0 0 (MQ below (zQv D ca A σ') (List.toArray [.ref v0, .int v1, .int v2, .int v3]) s 0 0 A) (F0 m 29 ls [.int y5, .int ((v1 + 14) + v2), .ref v0]) := by
    intro H locs ls hW hS hl
    replace hm := ob hm; obtain ⟨σ6, e7, hm⟩ := hm
    refine r_uI C0 hW hS e7 dX9_keepRegister_29 (fun H locs hW hS => ?_)
    cases hm
    exact r_vret C0 hr hlocks hW hS dX9_keepRegister_30
  clear hm
  have hm := e8
  clear e8
  refine lv_icmp_le (tgt := 27) hx hb dX9_keepRegister_20 (by decide) (fun h3 => ?_) (fun h3 => ?_)
  · rw [if_pos h3] at hm
    refine lv_iload hx hb dX9_keepRegister_27 (lv_at hl 0 rfl) ?_
    have hq1 := Option.some.inj hm; subst hq1
    exact J29_3 _ _ _ hW hS (lv_sub hl [] rfl)
  · rw [if_neg h3] at hm
    refine lv_iload_n hx hb dX9_keepRegister_23 rfl (lv_at hl 4 rfl) ?_
    refine lv_goto (tgt := 29) hx hb dX9_keepRegister_24 (by decide) ?_
    have hq1 := Option.some.inj hm; subst hq1
    exact J29_3 _ _ _ hW hS (lv_sub hl [] rfl)
set_option maxHeartbeats 4000000 in
set_option maxRecDepth 100000 in
theorem b_X9_keeps {l : Launch} {D : va_G} {ca : Nat → ClassId} {A : Nat → Prop} {N : Nat} {σ : zS} {v0 : Nat} {v1 : Int32} {v2 : Int32} {σ' : zS} (hm : m_X9_keeps N σ v0 v1 v2 = some σ') : Met l yX9_keeps (.code yX9_keeps cX9_keeps 3 none :: wsL_law) ({ frames := 1, cells := 0, slots := 0, locals := 26 } : Room) (va_Pc [.ref v0, .int v1, .int v2] (zP D ca A σ)) (zQv D ca A σ') 0 0 A := by
  refine zMk (by decide +kernel) (Nat.le_of_ble_eq_true rfl) ?_
  intro p e s m below meth c C0 hr hlocks hin hW ls hl
  have hx := C0.1
  have hb := C0.2.1
  have hS : va_S A s.heap s.heap [] := va_S.rf
  have hl : lv_has ls 3 [(0, .ref v0), (1, .int v1), (2, .int v2)] := hl
  unfold m_X9_keeps at hm
  refine lv_aload_n hx hb dX9_keeps_0 rfl (lv_at hl 0 rfl) ?_
  refine lv_iload_n hx hb dX9_keeps_1 rfl (lv_at hl 1 rfl) ?_
  refine lv_iconst (v := 0) hx hb dX9_keeps_2 (by decide) ?_
  refine lv_iadd hx hb dX9_keeps_3 ?_
  replace hm := ob hm; obtain ⟨x1, e2, hm⟩ := hm
  refine r_aI C0 hW e2 dX9_keeps_4 ?_
  by_cases h3 : x1 = 0
  · rw [if_pos h3] at hm
    refine z_top (congrArg some h3) ?_
    refine lv_lookup (tgt := 32) hx hb dX9_keeps_5 (by decide) rfl (by decide) ?_
    refine lv_aload_n hx hb dX9_keeps_32 rfl (lv_at hl 0 rfl) ?_
    refine lv_iload_n hx hb dX9_keeps_33 rfl (lv_at hl 1 rfl) ?_
    refine lv_iconst (v := 4) hx hb dX9_keeps_34 (by decide) ?_
    refine lv_iadd hx hb dX9_keeps_35 ?_
    replace hm := ob hm; obtain ⟨x4, e5, hm⟩ := hm
    refine z_top e5 ?_
    refine lv_dup2_11 hx hb dX9_keeps_36 rfl rfl ?_
    replace hm := ob hm; obtain ⟨x6, e7, hm⟩ := hm
    refine r_aI C0 hW e7 dX9_keeps_37 ?_
    refine lv_iconst (v := 1) hx hb dX9_keeps_38 (by decide) ?_
    refine lv_iload_n hx hb dX9_keeps_39 rfl (lv_at hl 2 rfl) ?_
    refine lv_sipush (v := 2048) hx hb dX9_keeps_40 (by decide) ?_
    refine lv_idiv hx hb dX9_keeps_43 (by decide) ?_
    refine lv_ishl hx hb dX9_keeps_44 ?_
    refine lv_ior hx hb dX9_keeps_45 ?_
    replace hm := ob hm; obtain ⟨σ8, e9, hm⟩ := hm
    refine r_uI C0 hW hS e9 dX9_keeps_46 (fun H locs hW hS => ?_)
    refine lv_goto (tgt := 75) hx hb dX9_keeps_47 (by decide) ?_
    cases hm
    exact r_vret C0 hr hlocks hW hS dX9_keeps_75
  · rw [if_neg h3] at hm
    by_cases h10 : x1 = 1
    · rw [if_pos h10] at hm
      refine z_top (congrArg some h10) ?_
      refine lv_lookup (tgt := 50) hx hb dX9_keeps_5 (by decide) rfl (by decide) ?_
      refine lv_aload_n hx hb dX9_keeps_50 rfl (lv_at hl 0 rfl) ?_
      refine lv_iload_n hx hb dX9_keeps_51 rfl (lv_at hl 1 rfl) ?_
      refine lv_iload_n hx hb dX9_keeps_52 rfl (lv_at hl 2 rfl) ?_
      replace hm := ob hm; obtain ⟨σ12, e11, hm⟩ := hm
      refine z_callv (z_runS (As := [.ref v0, .int v1, .int v2]) (rest := []) C0 ls_X9_55 (b_X9_keepHash e11) hW hS rfl hl.1 rfl (Nat.le_of_ble_eq_true rfl) dX9_keeps_53 rfl rfl ⟨Nat.le_of_ble_eq_true rfl, Nat.le_of_ble_eq_true rfl⟩ ⟨Nat.le_refl _, Nat.le_refl _⟩) hS (fun H locs hW hS => ?_)
      refine lv_goto (tgt := 75) hx hb dX9_keeps_56 (by decide) ?_
      cases hm
      exact r_vret C0 hr hlocks hW hS dX9_keeps_75
    · rw [if_neg h10] at hm
      refine lv_lookup (tgt := 59) (off := 54) hx hb dX9_keeps_5 (by decide) (show Op.lookupswitch.offset [(0, 27), (1, 45)] 54 _ = 54 from (lv_osw h3 (by decide)).trans ((lv_osw h10 (by decide)).trans (rfl))) (by decide) ?_
      refine lv_aload_n hx hb dX9_keeps_59 rfl (lv_at hl 0 rfl) ?_
      refine lv_iload_n hx hb dX9_keeps_60 rfl (lv_at hl 1 rfl) ?_
      refine lv_iload_n hx hb dX9_keeps_61 rfl (lv_at hl 2 rfl) ?_
      refine lv_bipush (v := 8) hx hb dX9_keeps_62 (by decide) ?_
      refine r_irem hx hb dX9_keeps_64 (by decide) ?_
      refine lv_iload_n hx hb dX9_keeps_65 rfl (lv_at hl 2 rfl) ?_
      refine lv_bipush (v := 8) hx hb dX9_keeps_66 (by decide) ?_
      refine lv_idiv hx hb dX9_keeps_68 (by decide) ?_
      replace hm := ob hm; obtain ⟨x14, e13, hm⟩ := hm
      refine z_calli (z_runS (As := [.int (v2 / 8)]) (rest := [.int (irem v2 8), .int v1, .ref v0]) C0 ls_X9_59 (b_X9_rank e13) hW hS rfl hl.1 rfl (Nat.le_of_ble_eq_true rfl) dX9_keeps_69 rfl rfl ⟨Nat.le_of_ble_eq_true rfl, Nat.le_of_ble_eq_true rfl⟩ ⟨Nat.le_refl _, Nat.le_refl _⟩) hS (fun H locs hW hS => ?_)
      replace hm := ob hm; obtain ⟨σ16, e15, hm⟩ := hm
      refine z_callv (z_runS (As := [.ref v0, .int v1, .int (irem v2 8), .int x14]) (rest := []) C0 ls_X9_63 (b_X9_keepRegister e15) hW hS rfl hl.1 rfl (Nat.le_of_ble_eq_true rfl) dX9_keeps_72 rfl rfl ⟨Nat.le_of_ble_eq_true rfl, Nat.le_of_ble_eq_true rfl⟩ ⟨Nat.le_refl _, Nat.le_refl _⟩) hS (fun H locs hW hS => ?_)
      cases hm
      exact r_vret C0 hr hlocks hW hS dX9_keeps_75
set_option maxHeartbeats 4000000 in
set_option maxRecDepth 100000 in
theorem b_X9_added {l : Launch} {D : va_G} {ca : Nat → ClassId} {A : Nat → Prop} {N : Nat} {σ : zS} {v0 : Nat} {v1 : Int32} {v2 : Int32} {r0 : Int32} (hm : m_X9_added N σ v0 v1 v2 = some r0) : Met l yX9_added (.code yX9_added cX9_added 5 (some .int) :: wsL_law) ({ frames := 0, cells := 0, slots := 0, locals := 0 } : Room) (va_Pc [.ref v0, .int v1, .int v2] (zP D ca A σ)) (zQi r0 D ca A σ) 0 0 A := by
  refine zMk (by decide +kernel) (Nat.le_of_ble_eq_true rfl) ?_
  intro p e s m below meth c C0 hr hlocks hin hW ls hl
  have hx := C0.1
  have hb := C0.2.1
  have hS : va_S A s.heap s.heap [] := va_S.rf
  have hl : lv_has ls 5 [(0, .ref v0), (1, .int v1), (2, .int v2)] := hl
  unfold m_X9_added at hm
  refine lv_iload_n hx hb dX9_added_0 rfl (lv_at hl 1 rfl) ?_
  refine lv_i2l hx hb dX9_added_1 rfl ?_
  refine lv_iload_n hx hb dX9_added_2 rfl (lv_at hl 2 rfl) ?_
  refine lv_i2l hx hb dX9_added_3 rfl ?_
  refine lv_ladd hx hb dX9_added_4 ?_
  replace hm := ob hm; obtain ⟨x1, e2, hm⟩ := hm
  refine z_topl e2 ?_
  refine lv_lstore_n (lv' := [(3, .long x1), (0, .ref v0), (1, .int v1), (2, .int v2)]) hx hb dX9_added_5 rfl hl (by decide) rfl (fun ls hl => ?_)
  refine lv_lload_n hx hb dX9_added_6 rfl (lv_at hl 0 rfl) ?_
  refine lv_ldc2 (v := 1000000000) hx hb C0.2.2.2.1 (C0.2.2.2.2.1 _ (zin_18 _ (List.mem_of_getElem? (i := 4) rfl))) dX9_added_7 ?_
  refine r_lcmp hx hb dX9_added_10 ?_
  refine lv_if_le (tgt := 19) hx hb dX9_added_11 (by decide) (fun h3 => ?_) (fun h3 => ?_)
  · rw [if_pos h3] at hm
    refine lv_lload_n hx hb dX9_added_19 rfl (lv_at hl 0 rfl) ?_
    refine lv_l2i hx hb dX9_added_20 rfl ?_
    cases hm
    exact r_iret C0 hr hlocks hW hS dX9_added_21
  · rw [if_neg h3] at hm
    refine lv_ldc (v := 1000000000) hx hb C0.2.2.2.1 (C0.2.2.2.2.1 _ (zin_18 _ (List.mem_of_getElem? (i := 5) rfl))) dX9_added_14 ?_
    refine lv_goto (tgt := 21) hx hb dX9_added_16 (by decide) ?_
    cases hm
    exact r_iret C0 hr hlocks hW hS dX9_added_21
set_option maxHeartbeats 4000000 in
set_option maxRecDepth 100000 in
theorem b_X9_sees {l : Launch} {D : va_G} {ca : Nat → ClassId} {A : Nat → Prop} {N : Nat} {σ : zS} {v0 : Nat} {v1 : Int32} {v2 : Int32} {σ' : zS} (hm : m_X9_sees N σ v0 v1 v2 = some σ') : Met l yX9_sees (.code yX9_sees cX9_sees 5 none :: wsL_law) ({ frames := 2, cells := 0, slots := 0, locals := 48 } : Room) (va_Pc [.ref v0, .int v1, .int v2] (zP D ca A σ)) (zQv D ca A σ') 0 0 A := by
  refine zMk (by decide +kernel) (Nat.le_of_ble_eq_true rfl) ?_
  intro p e s m below meth c C0 hr hlocks hin hW ls hl
  have hx := C0.1
  have hb := C0.2.1
  have hS : va_S A s.heap s.heap [] := va_S.rf
  have hl : lv_has ls 5 [(0, .ref v0), (1, .int v1), (2, .int v2)] := hl
  unfold m_X9_sees at hm
  refine lv_bipush (v := 23) hx hb dX9_sees_0 (by decide) ?_
  refine lv_iload_n hx hb dX9_sees_2 rfl (lv_at hl 1 rfl) ?_
  refine lv_imul hx hb dX9_sees_3 ?_
  replace hm := ob hm; obtain ⟨x1, e2, hm⟩ := hm
  refine z_top e2 ?_
  refine lv_istore_n (lv' := [(3, .int x1), (0, .ref v0), (1, .int v1), (2, .int v2)]) hx hb dX9_sees_4 rfl hl (by decide) rfl (fun ls hl => ?_)
  refine lv_sipush (v := 165) hx hb dX9_sees_5 (by decide) ?_
  refine lv_sipush (v := 1000) hx hb dX9_sees_8 (by decide) ?_
  refine lv_iload_n hx hb dX9_sees_11 rfl (lv_at hl 2 rfl) ?_
  refine lv_imul hx hb dX9_sees_12 ?_
  refine lv_iadd hx hb dX9_sees_13 ?_
  refine lv_iload_n hx hb dX9_sees_14 rfl (lv_at hl 3 rfl) ?_
  refine lv_iadd hx hb dX9_sees_15 ?_
  replace hm := ob hm; obtain ⟨x3, e4, hm⟩ := hm
  refine z_top e4 ?_
  refine lv_istore (lv' := [(4, .int x3), (3, .int x1), (0, .ref v0), (1, .int v1), (2, .int v2)]) hx hb dX9_sees_16 hl (by decide) rfl (fun ls hl => ?_)
  refine lv_aload_n hx hb dX9_sees_18 rfl (lv_at hl 2 rfl) ?_
  replace hm := ob hm; obtain ⟨a5, e6, hm⟩ := hm
  refine r_getA C0 hW fl_X9_7 e6 dX9_sees_19 ?_
  refine lv_iload_n hx hb dX9_sees_22 rfl (lv_at hl 1 rfl) ?_
  refine lv_iload_n hx hb dX9_sees_23 rfl (lv_at hl 4 rfl) ?_
  refine lv_aload_n hx hb dX9_sees_24 rfl (lv_at hl 2 rfl) ?_
  replace hm := ob hm; obtain ⟨a7, e8, hm⟩ := hm
  refine r_getA C0 hW fl_X9_7 e8 dX9_sees_25 ?_
  refine lv_iload_n hx hb dX9_sees_28 rfl (lv_at hl 1 rfl) ?_
  refine lv_iconst (v := 1) hx hb dX9_sees_29 (by decide) ?_
  refine lv_iadd hx hb dX9_sees_30 ?_
  replace hm := ob hm; obtain ⟨x9, e10, hm⟩ := hm
  refine r_aI C0 hW e10 dX9_sees_31 ?_
  replace hm := ob hm; obtain ⟨x12, e11, hm⟩ := hm
  refine z_calli (z_runS (As := [.int v2, .int x9]) (rest := [.int x1, .ref a5]) C0 ls_X9_107 (b_X9_hashOf e11) hW hS rfl hl.1 rfl (Nat.le_of_ble_eq_true rfl) dX9_sees_32 rfl rfl ⟨Nat.le_of_ble_eq_true rfl, Nat.le_of_ble_eq_true rfl⟩ ⟨Nat.le_refl _, Nat.le_refl _⟩) hS (fun H locs hW hS => ?_)
  replace hm := ob hm; obtain ⟨σ14, e13, hm⟩ := hm
  refine z_callv (z_runS (As := [.ref a5, .int x1, .int x12]) (rest := []) C0 ls_X9_110 (b_X9_keeps e13) hW hS rfl hl.1 rfl (Nat.le_of_ble_eq_true rfl) dX9_sees_35 rfl rfl ⟨Nat.le_of_ble_eq_true rfl, Nat.le_of_ble_eq_true rfl⟩ ⟨Nat.le_refl _, Nat.le_refl _⟩) hS (fun H locs hW hS => ?_)
  refine lv_aload_n hx hb dX9_sees_38 rfl (lv_at hl 2 rfl) ?_
  replace hm := ob hm; obtain ⟨a15, e16, hm⟩ := hm
  refine r_getA C0 hW fl_X9_7 e16 dX9_sees_39 ?_
  refine lv_iload_n hx hb dX9_sees_42 rfl (lv_at hl 1 rfl) ?_
  refine lv_iconst (v := 2) hx hb dX9_sees_43 (by decide) ?_
  refine lv_iadd hx hb dX9_sees_44 ?_
  refine lv_aload_n hx hb dX9_sees_45 rfl (lv_at hl 2 rfl) ?_
  refine lv_aload_n hx hb dX9_sees_46 rfl (lv_at hl 2 rfl) ?_
  replace hm := ob hm; obtain ⟨a17, e18, hm⟩ := hm
  refine r_getA C0 hW fl_X9_7 e18 dX9_sees_47 ?_
  refine lv_iload_n hx hb dX9_sees_50 rfl (lv_at hl 1 rfl) ?_
  refine lv_iconst (v := 2) hx hb dX9_sees_51 (by decide) ?_
  refine lv_iadd hx hb dX9_sees_52 ?_
  replace hm := ob hm; obtain ⟨x19, e20, hm⟩ := hm
  refine r_aI C0 hW e20 dX9_sees_53 ?_
  refine lv_iconst (v := 1) hx hb dX9_sees_54 (by decide) ?_
  replace hm := ob hm; obtain ⟨u21, e22, hm⟩ := hm
  replace hm := ob hm; obtain ⟨x24, e23, hm⟩ := hm
  refine z_calli (z_runV (As := [.int x19, .int 1]) (rest := [.int (x1 + 2), .ref a15]) (ci := 9) rfl rfl C0 lv_X9_113 (b_X9_added e23) hW hS e22 rfl hl.1 rfl (Nat.le_of_ble_eq_true rfl) dX9_sees_55 rfl rfl ⟨Nat.le_of_ble_eq_true rfl, Nat.le_of_ble_eq_true rfl⟩ ⟨Nat.le_refl _, Nat.le_refl _⟩) hS (fun H locs hW hS => ?_)
  replace hm := ob hm; obtain ⟨σ25, e26, hm⟩ := hm
  refine r_uI C0 hW hS e26 dX9_sees_58 (fun H locs hW hS => ?_)
  refine lv_aload_n hx hb dX9_sees_59 rfl (lv_at hl 2 rfl) ?_
  replace hm := ob hm; obtain ⟨a27, e28, hm⟩ := hm
  refine r_getA C0 hW fl_X9_7 e28 dX9_sees_60 ?_
  refine lv_iload hx hb dX9_sees_63 (lv_at hl 0 rfl) ?_
  replace hm := ob hm; obtain ⟨x29, e30, hm⟩ := hm
  refine r_aI C0 hW e30 dX9_sees_65 ?_
  replace hm := ob hm; obtain ⟨σ49, e56, hm⟩ := hm
  have J99_31 : ∀ (H : Heap) (locs : List Loc) (ls : Array Slot), zW D ca A σ49 H → va_S A s.heap H locs → lv_has ls 5 [(0, .ref v0)] → W p l e ({ frames := 2, cells := 0, slots := 0, locals := 48 } : Room) s m (List.toArray [.ref v0, .int v1, .int v2]) below meth c H locs 0 0 (MQ below (zQv D ca A σ') (List.toArray [.ref v0, .int v1, .int v2]) s 0 0 A) (F0 m 99 ls []) := by
    intro H locs ls hW hS hl
    refine lv_aload_n hx hb dX9_sees_99 rfl (lv_at hl 0 rfl) ?_
    replace hm := ob hm; obtain ⟨a50, e51, hm⟩ := hm
    refine r_getA C0 hW fl_X9_7 e51 dX9_sees_100 ?_
    refine lv_sipush (v := 139) hx hb dX9_sees_103 (by decide) ?_
    refine lv_dup2_11 hx hb dX9_sees_106 rfl rfl ?_
    replace hm := ob hm; obtain ⟨x52, e53, hm⟩ := hm
    refine r_aI C0 hW e53 dX9_sees_107 ?_
    refine lv_iconst (v := 1) hx hb dX9_sees_108 (by decide) ?_
    refine lv_iadd hx hb dX9_sees_109 ?_
    replace hm := ob hm; obtain ⟨σ54, e55, hm⟩ := hm
    refine r_uI C0 hW hS e55 dX9_sees_110 (fun H locs hW hS => ?_)
    cases hm
    exact r_vret C0 hr hlocks hW hS dX9_sees_111
  clear hm
  have hm := e56
  clear e56
  refine lv_if_ne (tgt := 99) hx hb dX9_sees_66 (by decide) (fun h31 => ?_) (fun h31 => ?_)
  · rw [if_neg h31] at hm
    have hq1 := Option.some.inj hm; subst hq1
    exact J99_31 _ _ _ hW hS (lv_sub hl [2] rfl)
  · rw [if_pos h31] at hm
    refine lv_aload_n hx hb dX9_sees_69 rfl (lv_at hl 2 rfl) ?_
    replace hm := ob hm; obtain ⟨a33, e34, hm⟩ := hm
    refine r_getA C0 hW fl_X9_7 e34 dX9_sees_70 ?_
    refine lv_iload hx hb dX9_sees_73 (lv_at hl 0 rfl) ?_
    refine lv_aload_n hx hb dX9_sees_75 rfl (lv_at hl 2 rfl) ?_
    replace hm := ob hm; obtain ⟨a35, e36, hm⟩ := hm
    refine r_getA C0 hW fl_X9_7 e36 dX9_sees_76 ?_
    refine lv_sipush (v := 139) hx hb dX9_sees_79 (by decide) ?_
    replace hm := ob hm; obtain ⟨x37, e38, hm⟩ := hm
    refine r_aI C0 hW e38 dX9_sees_82 ?_
    refine lv_iconst (v := 1) hx hb dX9_sees_83 (by decide) ?_
    refine lv_iadd hx hb dX9_sees_84 ?_
    replace hm := ob hm; obtain ⟨σ39, e40, hm⟩ := hm
    refine r_uI C0 hW hS e40 dX9_sees_85 (fun H locs hW hS => ?_)
    refine lv_aload_n hx hb dX9_sees_86 rfl (lv_at hl 2 rfl) ?_
    replace hm := ob hm; obtain ⟨a41, e42, hm⟩ := hm
    refine r_getA C0 hW fl_X9_7 e42 dX9_sees_87 ?_
    refine lv_iload_n hx hb dX9_sees_90 rfl (lv_at hl 1 rfl) ?_
    refine lv_bipush (v := 22) hx hb dX9_sees_91 (by decide) ?_
    refine lv_iadd hx hb dX9_sees_93 ?_
    replace hm := ob hm; obtain ⟨x43, e44, hm⟩ := hm
    refine z_top e44 ?_
    refine lv_dup2_11 hx hb dX9_sees_94 rfl rfl ?_
    replace hm := ob hm; obtain ⟨x45, e46, hm⟩ := hm
    refine r_aI C0 hW e46 dX9_sees_95 ?_
    refine lv_iconst (v := 1) hx hb dX9_sees_96 (by decide) ?_
    refine lv_iadd hx hb dX9_sees_97 ?_
    replace hm := ob hm; obtain ⟨σ47, e48, hm⟩ := hm
    refine r_uI C0 hW hS e48 dX9_sees_98 (fun H locs hW hS => ?_)
    have hq1 := Option.some.inj hm; subst hq1
    exact J99_31 _ _ _ hW hS (lv_sub hl [2] rfl)
set_option maxHeartbeats 4000000 in
set_option maxRecDepth 100000 in
theorem w_X9_lit_L4 {p : Program} {l : Launch} {e : Env} {s : State} {m : MethodId} {args : Array Value} {below : List Frame} {meth : Method} {c : Code} {D : va_G} {ca : Nat → ClassId} {A : Nat → Prop} {Q : State → Prop} (N : Nat) : ∀ (n : Nat) {σ : zS} {v0 : Int32} {v1 : Int32} {v2 : Int32} {y1 : Int32} {H : Heap} {locs : List Loc} {ls : Array Slot}, m_X9_lit_L4 N n σ v0 v1 v2 = some y1 → zC p s m args c RX9 cX9_lit 3 D ca A → zW D ca A σ H → va_S A s.heap H locs → lv_has ls 3 [(0, .int v0), (1, .int v1), (2, .int v2)] → (∀ (H : Heap) (locs : List Loc) (ls : Array Slot), zW D ca A σ H → va_S A s.heap H locs → lv_has ls 3 [(1, .int y1)] → W p l e ({ frames := 0, cells := 0, slots := 0, locals := 0 } : Room) s m args below meth c H locs 0 0 Q (F0 m 24 ls [])) → W p l e ({ frames := 0, cells := 0, slots := 0, locals := 0 } : Room) s m args below meth c H locs 0 0 Q (F0 m 4 ls []) := by
  intro n
  induction n with
  | zero =>
    intro σ v0 v1 v2 y1 H locs ls hm C0 hW hS hl kk
    rw [m_X9_lit_L4] at hm
    cases hm
  | succ n ih =>
    intro σ v0 v1 v2 y1 H locs ls hm C0 hW hS hl kk
    rw [m_X9_lit_L4] at hm
    have hx := C0.1
    have hb := C0.2.1
    refine lv_iload_n hx hb dX9_lit_4 rfl (lv_at hl 2 rfl) ?_
    refine lv_bipush (v := 32) hx hb dX9_lit_5 (by decide) ?_
    refine lv_icmp_ge (tgt := 24) hx hb dX9_lit_7 (by decide) (fun h1 => ?_) (fun h1 => ?_)
    · rw [if_pos h1] at hm
      cases hm
      exact kk _ _ _ hW hS (lv_sub hl [1] rfl)
    · rw [if_neg h1] at hm
      refine lv_iload_n hx hb dX9_lit_10 rfl (lv_at hl 1 rfl) ?_
      refine lv_iload_n hx hb dX9_lit_11 rfl (lv_at hl 0 rfl) ?_
      refine lv_iload_n hx hb dX9_lit_12 rfl (lv_at hl 2 rfl) ?_
      refine lv_ishr hx hb dX9_lit_13 ?_
      refine lv_iconst (v := 1) hx hb dX9_lit_14 (by decide) ?_
      refine lv_iand hx hb dX9_lit_15 ?_
      refine lv_iadd hx hb dX9_lit_16 ?_
      replace hm := ob hm; obtain ⟨x2, e3, hm⟩ := hm
      refine z_top e3 ?_
      refine lv_istore_n (lv' := [(1, .int x2), (0, .int v0), (2, .int v2)]) hx hb dX9_lit_17 rfl hl (by decide) rfl (fun ls hl => ?_)
      replace hm := ob hm; obtain ⟨x4, e5, hm⟩ := hm
      refine lv_iinc (v := x4) (lv' := [(2, .int x4), (1, .int x2), (0, .int v0)]) hx hb dX9_lit_18 hl (k := 2) rfl (Option.some.inj e5) (by decide) rfl (fun ls hl => ?_)
      refine lv_goto (tgt := 4) hx hb dX9_lit_21 (by decide) ?_
      exact ih hm C0 hW hS (lv_sub hl [2, 1, 0] rfl) kk
set_option maxHeartbeats 4000000 in
set_option maxRecDepth 100000 in
theorem b_X9_lit {l : Launch} {D : va_G} {ca : Nat → ClassId} {A : Nat → Prop} {N : Nat} {σ : zS} {v0 : Int32} {r0 : Int32} (hm : m_X9_lit N σ v0 = some r0) : Met l yX9_lit (.code yX9_lit cX9_lit 3 (some .int) :: wsL_law) ({ frames := 0, cells := 0, slots := 0, locals := 0 } : Room) (va_Pc [.int v0] (zP D ca A σ)) (zQi r0 D ca A σ) 0 0 A := by
  refine zMk (by decide +kernel) (Nat.le_of_ble_eq_true rfl) ?_
  intro p e s m below meth c C0 hr hlocks hin hW ls hl
  have hx := C0.1
  have hb := C0.2.1
  have hS : va_S A s.heap s.heap [] := va_S.rf
  have hl : lv_has ls 3 [(0, .int v0)] := hl
  unfold m_X9_lit at hm
  refine lv_iconst (v := 0) hx hb dX9_lit_0 (by decide) ?_
  refine lv_istore_n (lv' := [(1, .int 0), (0, .int v0)]) hx hb dX9_lit_1 rfl hl (by decide) rfl (fun ls hl => ?_)
  refine lv_iconst (v := 0) hx hb dX9_lit_2 (by decide) ?_
  refine lv_istore_n (lv' := [(2, .int 0), (1, .int 0), (0, .int v0)]) hx hb dX9_lit_3 rfl hl (by decide) rfl (fun ls hl => ?_)
  replace hm := ob hm; obtain ⟨y6, e7, hm⟩ := hm
  refine w_X9_lit_L4 N N e7 C0 hW hS (lv_sub hl [2, 1, 0] rfl) (fun H locs ls hW hS hl => ?_)
  refine lv_iload_n hx hb dX9_lit_24 rfl (lv_at hl 0 rfl) ?_
  cases hm
  exact r_iret C0 hr hlocks hW hS dX9_lit_25
set_option maxHeartbeats 4000000 in
set_option maxRecDepth 100000 in
theorem w_X9_harmonic_L6 {p : Program} {l : Launch} {e : Env} {s : State} {m : MethodId} {args : Array Value} {below : List Frame} {meth : Method} {c : Code} {D : va_G} {ca : Nat → ClassId} {A : Nat → Prop} {Q : State → Prop} (N : Nat) : ∀ (n : Nat) {σ : zS} {v1 : Int32} {v2 : Int32} {v3 : Int32} {y2 : Int32} {H : Heap} {locs : List Loc} {ls : Array Slot}, m_X9_harmonic_L6 N n σ v1 v2 v3 = some y2 → zC p s m args c RX9 cX9_harmonic 4 D ca A → zW D ca A σ H → va_S A s.heap H locs → lv_has ls 4 [(1, .int v1), (2, .int v2), (3, .int v3)] → (∀ (H : Heap) (locs : List Loc) (ls : Array Slot), zW D ca A σ H → va_S A s.heap H locs → lv_has ls 4 [(2, .int y2)] → W p l e ({ frames := 0, cells := 0, slots := 0, locals := 0 } : Room) s m args below meth c H locs 0 0 Q (F0 m 27 ls [])) → W p l e ({ frames := 0, cells := 0, slots := 0, locals := 0 } : Room) s m args below meth c H locs 0 0 Q (F0 m 6 ls []) := by
  intro n
  induction n with
  | zero =>
    intro σ v1 v2 v3 y2 H locs ls hm C0 hW hS hl kk
    rw [m_X9_harmonic_L6] at hm
    cases hm
  | succ n ih =>
    intro σ v1 v2 v3 y2 H locs ls hm C0 hW hS hl kk
    rw [m_X9_harmonic_L6] at hm
    have hx := C0.1
    have hb := C0.2.1
    refine lv_iload_n hx hb dX9_harmonic_6 rfl (lv_at hl 2 rfl) ?_
    refine lv_iload_n hx hb dX9_harmonic_7 rfl (lv_at hl 0 rfl) ?_
    refine lv_icmp_gt (tgt := 27) hx hb dX9_harmonic_8 (by decide) (fun h3 => ?_) (fun h3 => ?_)
    · rw [if_pos h3] at hm
      cases hm
      exact kk _ _ _ hW hS (lv_sub hl [1] rfl)
    · rw [if_neg h3] at hm
      refine lv_iload_n hx hb dX9_harmonic_11 rfl (lv_at hl 1 rfl) ?_
      refine lv_sipush (v := 1000) hx hb dX9_harmonic_12 (by decide) ?_
      refine lv_iload_n hx hb dX9_harmonic_15 rfl (lv_at hl 0 rfl) ?_
      refine lv_imul hx hb dX9_harmonic_16 ?_
      refine lv_iload_n hx hb dX9_harmonic_17 rfl (lv_at hl 2 rfl) ?_
      replace hm := ob hm; obtain ⟨u4, e5, hm⟩ := hm
      refine lv_idiv hx hb dX9_harmonic_18 (ckD_ne e5) ?_
      refine lv_iadd hx hb dX9_harmonic_19 ?_
      replace hm := ob hm; obtain ⟨x6, e7, hm⟩ := hm
      refine z_top e7 ?_
      refine lv_istore_n (lv' := [(2, .int x6), (1, .int v1), (3, .int v3)]) hx hb dX9_harmonic_20 rfl hl (by decide) rfl (fun ls hl => ?_)
      replace hm := ob hm; obtain ⟨x8, e9, hm⟩ := hm
      refine lv_iinc (v := x8) (lv' := [(3, .int x8), (2, .int x6), (1, .int v1)]) hx hb dX9_harmonic_21 hl (k := 2) rfl (Option.some.inj e9) (by decide) rfl (fun ls hl => ?_)
      refine lv_goto (tgt := 6) hx hb dX9_harmonic_24 (by decide) ?_
      exact ih hm C0 hW hS (lv_sub hl [2, 1, 0] rfl) kk
set_option maxHeartbeats 4000000 in
set_option maxRecDepth 100000 in
theorem b_X9_harmonic {l : Launch} {D : va_G} {ca : Nat → ClassId} {A : Nat → Prop} {N : Nat} {σ : zS} {v0 : Int32} {v1 : Int32} {r0 : Int32} (hm : m_X9_harmonic N σ v0 v1 = some r0) : Met l yX9_harmonic (.code yX9_harmonic cX9_harmonic 4 (some .int) :: wsL_law) ({ frames := 0, cells := 0, slots := 0, locals := 0 } : Room) (va_Pc [.int v0, .int v1] (zP D ca A σ)) (zQi r0 D ca A σ) 0 0 A := by
  refine zMk (by decide +kernel) (Nat.le_of_ble_eq_true rfl) ?_
  intro p e s m below meth c C0 hr hlocks hin hW ls hl
  have hx := C0.1
  have hb := C0.2.1
  have hS : va_S A s.heap s.heap [] := va_S.rf
  have hl : lv_has ls 4 [(0, .int v0), (1, .int v1)] := hl
  unfold m_X9_harmonic at hm
  refine lv_iconst (v := 0) hx hb dX9_harmonic_0 (by decide) ?_
  refine lv_istore_n (lv' := [(2, .int 0), (0, .int v0), (1, .int v1)]) hx hb dX9_harmonic_1 rfl hl (by decide) rfl (fun ls hl => ?_)
  refine lv_iload_n hx hb dX9_harmonic_2 rfl (lv_at hl 1 rfl) ?_
  refine lv_iconst (v := 1) hx hb dX9_harmonic_3 (by decide) ?_
  refine lv_iadd hx hb dX9_harmonic_4 ?_
  replace hm := ob hm; obtain ⟨x1, e2, hm⟩ := hm
  refine z_top e2 ?_
  refine lv_istore_n (lv' := [(3, .int x1), (2, .int 0), (0, .int v0), (1, .int v1)]) hx hb dX9_harmonic_5 rfl hl (by decide) rfl (fun ls hl => ?_)
  replace hm := ob hm; obtain ⟨y10, e11, hm⟩ := hm
  refine w_X9_harmonic_L6 N N e11 C0 hW hS (lv_sub hl [3, 1, 0] rfl) (fun H locs ls hW hS hl => ?_)
  refine lv_iload_n hx hb dX9_harmonic_27 rfl (lv_at hl 0 rfl) ?_
  refine lv_sipush (v := 1000) hx hb dX9_harmonic_28 (by decide) ?_
  refine lv_idiv hx hb dX9_harmonic_31 (by decide) ?_
  cases hm
  exact r_iret C0 hr hlocks hW hS dX9_harmonic_32
set_option maxHeartbeats 4000000 in
set_option maxRecDepth 100000 in
theorem w_X9_filled_L4 {p : Program} {l : Launch} {e : Env} {s : State} {m : MethodId} {args : Array Value} {below : List Frame} {meth : Method} {c : Code} {D : va_G} {ca : Nat → ClassId} {A : Nat → Prop} {Q : State → Prop} (N : Nat) : ∀ (n : Nat) {σ : zS} {v0 : Nat} {v1 : Int32} {v2 : Int32} {v3 : Int32} {y2 : Int32} {H : Heap} {locs : List Loc} {ls : Array Slot}, m_X9_filled_L4 N n σ v0 v1 v2 v3 = some y2 → zC p s m args c RX9 cX9_filled 4 D ca A → zW D ca A σ H → va_S A s.heap H locs → lv_has ls 4 [(0, .ref v0), (1, .int v1), (2, .int v2), (3, .int v3)] → (∀ (H : Heap) (locs : List Loc) (ls : Array Slot), zW D ca A σ H → va_S A s.heap H locs → lv_has ls 4 [(2, .int y2)] → W p l e ({ frames := 0, cells := 0, slots := 0, locals := 0 } : Room) s m args below meth c H locs 0 0 Q (F0 m 35 ls [])) → W p l e ({ frames := 0, cells := 0, slots := 0, locals := 0 } : Room) s m args below meth c H locs 0 0 Q (F0 m 4 ls []) := by
  intro n
  induction n with
  | zero =>
    intro σ v0 v1 v2 v3 y2 H locs ls hm C0 hW hS hl kk
    rw [m_X9_filled_L4] at hm
    cases hm
  | succ n ih =>
    intro σ v0 v1 v2 v3 y2 H locs ls hm C0 hW hS hl kk
    rw [m_X9_filled_L4] at hm
    have hx := C0.1
    have hb := C0.2.1
    refine lv_iload_n hx hb dX9_filled_4 rfl (lv_at hl 3 rfl) ?_
    refine lv_bipush (v := 8) hx hb dX9_filled_5 (by decide) ?_
    refine lv_icmp_ge (tgt := 35) hx hb dX9_filled_7 (by decide) (fun h1 => ?_) (fun h1 => ?_)
    · rw [if_pos h1] at hm
      cases hm
      exact kk _ _ _ hW hS (lv_sub hl [2] rfl)
    · rw [if_neg h1] at hm
      refine lv_iload_n hx hb dX9_filled_10 rfl (lv_at hl 2 rfl) ?_
      refine lv_aload_n hx hb dX9_filled_11 rfl (lv_at hl 0 rfl) ?_
      refine lv_iload_n hx hb dX9_filled_12 rfl (lv_at hl 1 rfl) ?_
      refine lv_bipush (v := 14) hx hb dX9_filled_13 (by decide) ?_
      refine lv_iadd hx hb dX9_filled_15 ?_
      refine lv_iload_n hx hb dX9_filled_16 rfl (lv_at hl 3 rfl) ?_
      refine lv_iadd hx hb dX9_filled_17 ?_
      replace hm := ob hm; obtain ⟨x2, e3, hm⟩ := hm
      refine r_aI C0 hW e3 dX9_filled_18 ?_
      replace hm := ob hm; obtain ⟨y6, e11, hm⟩ := hm
      have J27_4 : ∀ (H : Heap) (locs : List Loc) (ls : Array Slot), zW D ca A σ H → va_S A s.heap H locs → lv_has ls 4 [(0, .ref v0), (1, .int v1), (3, .int v3)] → W p l e ({ frames := 0, cells := 0, slots := 0, locals := 0 } : Room) s m args below meth c H locs 0 0 Q (F0 m 27 ls [.int y6, .int v2]) := by
        intro H locs ls hW hS hl
        refine lv_iadd hx hb dX9_filled_27 ?_
        replace hm := ob hm; obtain ⟨x7, e8, hm⟩ := hm
        refine z_top e8 ?_
        refine lv_istore_n (lv' := [(2, .int x7), (0, .ref v0), (1, .int v1), (3, .int v3)]) hx hb dX9_filled_28 rfl hl (by decide) rfl (fun ls hl => ?_)
        replace hm := ob hm; obtain ⟨x9, e10, hm⟩ := hm
        refine lv_iinc (v := x9) (lv' := [(3, .int x9), (2, .int x7), (0, .ref v0), (1, .int v1)]) hx hb dX9_filled_29 hl (k := 3) rfl (Option.some.inj e10) (by decide) rfl (fun ls hl => ?_)
        refine lv_goto (tgt := 4) hx hb dX9_filled_32 (by decide) ?_
        exact ih hm C0 hW hS (lv_sub hl [2, 3, 1, 0] rfl) kk
      clear hm
      have hm := e11
      clear e11
      refine lv_if_le (tgt := 26) hx hb dX9_filled_19 (by decide) (fun h4 => ?_) (fun h4 => ?_)
      · rw [if_pos h4] at hm
        refine lv_iconst (v := 0) hx hb dX9_filled_26 (by decide) ?_
        have hq1 := Option.some.inj hm; subst hq1
        exact J27_4 _ _ _ hW hS (lv_sub hl [0, 1, 3] rfl)
      · rw [if_neg h4] at hm
        refine lv_iconst (v := 1) hx hb dX9_filled_22 (by decide) ?_
        refine lv_goto (tgt := 27) hx hb dX9_filled_23 (by decide) ?_
        have hq1 := Option.some.inj hm; subst hq1
        exact J27_4 _ _ _ hW hS (lv_sub hl [0, 1, 3] rfl)
set_option maxHeartbeats 4000000 in
set_option maxRecDepth 100000 in
theorem b_X9_filled {l : Launch} {D : va_G} {ca : Nat → ClassId} {A : Nat → Prop} {N : Nat} {σ : zS} {v0 : Nat} {v1 : Int32} {r0 : Int32} (hm : m_X9_filled N σ v0 v1 = some r0) : Met l yX9_filled (.code yX9_filled cX9_filled 4 (some .int) :: wsL_law) ({ frames := 0, cells := 0, slots := 0, locals := 0 } : Room) (va_Pc [.ref v0, .int v1] (zP D ca A σ)) (zQi r0 D ca A σ) 0 0 A := by
  refine zMk (by decide +kernel) (Nat.le_of_ble_eq_true rfl) ?_
  intro p e s m below meth c C0 hr hlocks hin hW ls hl
  have hx := C0.1
  have hb := C0.2.1
  have hS : va_S A s.heap s.heap [] := va_S.rf
  have hl : lv_has ls 4 [(0, .ref v0), (1, .int v1)] := hl
  unfold m_X9_filled at hm
  refine lv_iconst (v := 0) hx hb dX9_filled_0 (by decide) ?_
  refine lv_istore_n (lv' := [(2, .int 0), (0, .ref v0), (1, .int v1)]) hx hb dX9_filled_1 rfl hl (by decide) rfl (fun ls hl => ?_)
  refine lv_iconst (v := 0) hx hb dX9_filled_2 (by decide) ?_
  refine lv_istore_n (lv' := [(3, .int 0), (2, .int 0), (0, .ref v0), (1, .int v1)]) hx hb dX9_filled_3 rfl hl (by decide) rfl (fun ls hl => ?_)
  replace hm := ob hm; obtain ⟨y12, e13, hm⟩ := hm
  refine w_X9_filled_L4 N N e13 C0 hW hS (lv_sub hl [2, 3, 1, 0] rfl) (fun H locs ls hW hS hl => ?_)
  refine lv_iload_n hx hb dX9_filled_35 rfl (lv_at hl 0 rfl) ?_
  cases hm
  exact r_iret C0 hr hlocks hW hS dX9_filled_36
set_option maxHeartbeats 4000000 in
set_option maxRecDepth 100000 in
theorem w_X9_byRegisters_L25 {p : Program} {l : Launch} {e : Env} {s : State} {m : MethodId} {args : Array Value} {below : List Frame} {meth : Method} {c : Code} {D : va_G} {ca : Nat → ClassId} {A : Nat → Prop} {Q : State → Prop} (N : Nat) : ∀ (n : Nat) {σ : zS} {v0 : Nat} {v1 : Int32} {v3 : Int32} {v4 : Int32} {y3 : Int32} {H : Heap} {locs : List Loc} {ls : Array Slot}, m_X9_byRegisters_L25 N n σ v0 v1 v3 v4 = some y3 → zC p s m args c RX9 cX9_byRegisters 5 D ca A → zW D ca A σ H → va_S A s.heap H locs → lv_has ls 5 [(0, .ref v0), (1, .int v1), (3, .int v3), (4, .int v4)] → (∀ (H : Heap) (locs : List Loc) (ls : Array Slot), zW D ca A σ H → va_S A s.heap H locs → lv_has ls 5 [(3, .int y3)] → W p l e ({ frames := 1, cells := 0, slots := 0, locals := 23 } : Room) s m args below meth c H locs 0 0 Q (F0 m 55 ls [])) → W p l e ({ frames := 1, cells := 0, slots := 0, locals := 23 } : Room) s m args below meth c H locs 0 0 Q (F0 m 25 ls []) := by
  intro n
  induction n with
  | zero =>
    intro σ v0 v1 v3 v4 y3 H locs ls hm C0 hW hS hl kk
    rw [m_X9_byRegisters_L25] at hm
    cases hm
  | succ n ih =>
    intro σ v0 v1 v3 v4 y3 H locs ls hm C0 hW hS hl kk
    rw [m_X9_byRegisters_L25] at hm
    have hx := C0.1
    have hb := C0.2.1
    refine lv_iload hx hb dX9_byRegisters_25 (lv_at hl 3 rfl) ?_
    refine lv_bipush (v := 8) hx hb dX9_byRegisters_27 (by decide) ?_
    refine lv_icmp_ge (tgt := 55) hx hb dX9_byRegisters_29 (by decide) (fun h6 => ?_) (fun h6 => ?_)
    · rw [if_pos h6] at hm
      cases hm
      exact kk _ _ _ hW hS (lv_sub hl [2] rfl)
    · rw [if_neg h6] at hm
      refine lv_iload_n hx hb dX9_byRegisters_32 rfl (lv_at hl 2 rfl) ?_
      refine lv_iconst (v := 1) hx hb dX9_byRegisters_33 (by decide) ?_
      refine lv_bipush (v := 14) hx hb dX9_byRegisters_34 (by decide) ?_
      refine lv_aload_n hx hb dX9_byRegisters_36 rfl (lv_at hl 0 rfl) ?_
      refine lv_iload_n hx hb dX9_byRegisters_37 rfl (lv_at hl 1 rfl) ?_
      refine lv_bipush (v := 14) hx hb dX9_byRegisters_38 (by decide) ?_
      refine lv_iadd hx hb dX9_byRegisters_40 ?_
      refine lv_iload hx hb dX9_byRegisters_41 (lv_at hl 3 rfl) ?_
      refine lv_iadd hx hb dX9_byRegisters_43 ?_
      replace hm := ob hm; obtain ⟨x7, e8, hm⟩ := hm
      refine r_aI C0 hW e8 dX9_byRegisters_44 ?_
      refine lv_isub hx hb dX9_byRegisters_45 ?_
      refine lv_ishl hx hb dX9_byRegisters_46 ?_
      refine lv_iadd hx hb dX9_byRegisters_47 ?_
      replace hm := ob hm; obtain ⟨x9, e10, hm⟩ := hm
      refine z_top e10 ?_
      refine lv_istore_n (lv' := [(3, .int x9), (0, .ref v0), (1, .int v1), (4, .int v4)]) hx hb dX9_byRegisters_48 rfl hl (by decide) rfl (fun ls hl => ?_)
      replace hm := ob hm; obtain ⟨x11, e12, hm⟩ := hm
      refine lv_iinc (v := x11) (lv' := [(4, .int x11), (3, .int x9), (0, .ref v0), (1, .int v1)]) hx hb dX9_byRegisters_49 hl (k := 3) rfl (Option.some.inj e12) (by decide) rfl (fun ls hl => ?_)
      refine lv_goto (tgt := 25) hx hb dX9_byRegisters_52 (by decide) ?_
      exact ih hm C0 hW hS (lv_sub hl [2, 3, 1, 0] rfl) kk
set_option maxHeartbeats 4000000 in
set_option maxRecDepth 100000 in
theorem b_X9_byRegisters {l : Launch} {D : va_G} {ca : Nat → ClassId} {A : Nat → Prop} {N : Nat} {σ : zS} {v0 : Nat} {v1 : Int32} {r0 : Int32} (hm : m_X9_byRegisters N σ v0 v1 = some r0) : Met l yX9_byRegisters (.code yX9_byRegisters cX9_byRegisters 5 (some .int) :: wsL_law) ({ frames := 1, cells := 0, slots := 0, locals := 23 } : Room) (va_Pc [.ref v0, .int v1] (zP D ca A σ)) (zQi r0 D ca A σ) 0 0 A := by
  refine zMk (by decide +kernel) (Nat.le_of_ble_eq_true rfl) ?_
  intro p e s m below meth c C0 hr hlocks hin hW ls hl
  have hx := C0.1
  have hb := C0.2.1
  have hS : va_S A s.heap s.heap [] := va_S.rf
  have hl : lv_has ls 5 [(0, .ref v0), (1, .int v1)] := hl
  unfold m_X9_byRegisters at hm
  refine lv_bipush (v := 8) hx hb dX9_byRegisters_0 (by decide) ?_
  refine lv_aload_n hx hb dX9_byRegisters_2 rfl (lv_at hl 0 rfl) ?_
  refine lv_iload_n hx hb dX9_byRegisters_3 rfl (lv_at hl 1 rfl) ?_
  replace hm := ob hm; obtain ⟨x2, e1, hm⟩ := hm
  refine z_calli (z_runS (As := [.ref v0, .int v1]) (rest := [.int 8]) C0 ls_X9_70 (b_X9_filled e1) hW hS rfl hl.1 rfl (Nat.le_of_ble_eq_true rfl) dX9_byRegisters_4 rfl rfl ⟨Nat.le_of_ble_eq_true rfl, Nat.le_of_ble_eq_true rfl⟩ ⟨Nat.le_refl _, Nat.le_refl _⟩) hS (fun H locs hW hS => ?_)
  refine lv_isub hx hb dX9_byRegisters_7 ?_
  replace hm := ob hm; obtain ⟨x3, e4, hm⟩ := hm
  refine z_top e4 ?_
  refine lv_istore_n (lv' := [(2, .int x3), (0, .ref v0), (1, .int v1)]) hx hb dX9_byRegisters_8 rfl hl (by decide) rfl (fun ls hl => ?_)
  refine lv_iload_n hx hb dX9_byRegisters_9 rfl (lv_at hl 0 rfl) ?_
  refine lv_if_le (tgt := 20) hx hb dX9_byRegisters_10 (by decide) (fun h5 => ?_) (fun h5 => ?_)
  · rw [if_pos h5] at hm
    refine lv_iconst (v := 0) hx hb dX9_byRegisters_20 (by decide) ?_
    refine lv_istore_n (lv' := [(3, .int 0), (2, .int x3), (0, .ref v0), (1, .int v1)]) hx hb dX9_byRegisters_21 rfl hl (by decide) rfl (fun ls hl => ?_)
    refine lv_iconst (v := 0) hx hb dX9_byRegisters_22 (by decide) ?_
    refine lv_istore (lv' := [(4, .int 0), (3, .int 0), (2, .int x3), (0, .ref v0), (1, .int v1)]) hx hb dX9_byRegisters_23 hl (by decide) rfl (fun ls hl => ?_)
    replace hm := ob hm; obtain ⟨y13, e14, hm⟩ := hm
    refine w_X9_byRegisters_L25 N N e14 C0 hW hS (lv_sub hl [3, 4, 1, 0] rfl) (fun H locs ls hW hS hl => ?_)
    refine lv_ldc (v := 655360) hx hb C0.2.2.2.1 (C0.2.2.2.2.1 _ (zin_19 _ (List.mem_of_getElem? (i := 2) rfl))) dX9_byRegisters_55 ?_
    refine lv_iload_n hx hb dX9_byRegisters_57 rfl (lv_at hl 0 rfl) ?_
    replace hm := ob hm; obtain ⟨u15, e16, hm⟩ := hm
    refine lv_idiv hx hb dX9_byRegisters_58 (ckD_ne e16) ?_
    cases hm
    exact r_iret C0 hr hlocks hW hS dX9_byRegisters_59
  · rw [if_neg h5] at hm
    refine lv_iload_n hx hb dX9_byRegisters_13 rfl (lv_at hl 0 rfl) ?_
    refine lv_bipush (v := 8) hx hb dX9_byRegisters_14 (by decide) ?_
    replace hm := ob hm; obtain ⟨x18, e17, hm⟩ := hm
    refine z_calli (z_runS (As := [.int x3, .int 8]) (rest := []) C0 ls_X9_74 (b_X9_harmonic e17) hW hS rfl hl.1 rfl (Nat.le_of_ble_eq_true rfl) dX9_byRegisters_16 rfl rfl ⟨Nat.le_of_ble_eq_true rfl, Nat.le_of_ble_eq_true rfl⟩ ⟨Nat.le_refl _, Nat.le_refl _⟩) hS (fun H locs hW hS => ?_)
    cases hm
    exact r_iret C0 hr hlocks hW hS dX9_byRegisters_19
set_option maxHeartbeats 4000000 in
set_option maxRecDepth 100000 in
theorem b_X9_rough {l : Launch} {D : va_G} {ca : Nat → ClassId} {A : Nat → Prop} {N : Nat} {σ : zS} {v0 : Nat} {v1 : Int32} {r0 : Int32} (hm : m_X9_rough N σ v0 v1 = some r0) : Met l yX9_rough (.code yX9_rough cX9_rough 2 (some .int) :: wsL_law) ({ frames := 2, cells := 0, slots := 0, locals := 47 } : Room) (va_Pc [.ref v0, .int v1] (zP D ca A σ)) (zQi r0 D ca A σ) 0 0 A := by
  refine zMk (by decide +kernel) (Nat.le_of_ble_eq_true rfl) ?_
  intro p e s m below meth c C0 hr hlocks hin hW ls hl
  have hx := C0.1
  have hb := C0.2.1
  have hS : va_S A s.heap s.heap [] := va_S.rf
  have hl : lv_has ls 2 [(0, .ref v0), (1, .int v1)] := hl
  unfold m_X9_rough at hm
  refine lv_aload_n hx hb dX9_rough_0 rfl (lv_at hl 0 rfl) ?_
  refine lv_iload_n hx hb dX9_rough_1 rfl (lv_at hl 1 rfl) ?_
  refine lv_iconst (v := 0) hx hb dX9_rough_2 (by decide) ?_
  refine lv_iadd hx hb dX9_rough_3 ?_
  replace hm := ob hm; obtain ⟨x1, e2, hm⟩ := hm
  refine r_aI C0 hW e2 dX9_rough_4 ?_
  by_cases h3 : x1 = 0
  · rw [if_pos h3] at hm
    refine z_top (congrArg some h3) ?_
    refine lv_lookup (tgt := 32) hx hb dX9_rough_5 (by decide) rfl (by decide) ?_
    refine lv_bipush (v := 32) hx hb dX9_rough_32 (by decide) ?_
    refine lv_aload_n hx hb dX9_rough_34 rfl (lv_at hl 0 rfl) ?_
    refine lv_iload_n hx hb dX9_rough_35 rfl (lv_at hl 1 rfl) ?_
    refine lv_iconst (v := 4) hx hb dX9_rough_36 (by decide) ?_
    refine lv_iadd hx hb dX9_rough_37 ?_
    replace hm := ob hm; obtain ⟨x4, e5, hm⟩ := hm
    refine r_aI C0 hW e5 dX9_rough_38 ?_
    replace hm := ob hm; obtain ⟨x7, e6, hm⟩ := hm
    refine z_calli (z_runS (As := [.int x4]) (rest := [.int 32]) C0 ls_X9_67 (b_X9_lit e6) hW hS rfl hl.1 rfl (Nat.le_of_ble_eq_true rfl) dX9_rough_39 rfl rfl ⟨Nat.le_of_ble_eq_true rfl, Nat.le_of_ble_eq_true rfl⟩ ⟨Nat.le_refl _, Nat.le_refl _⟩) hS (fun H locs hW hS => ?_)
    refine lv_isub hx hb dX9_rough_42 ?_
    refine lv_bipush (v := 32) hx hb dX9_rough_43 (by decide) ?_
    replace hm := ob hm; obtain ⟨x9, e8, hm⟩ := hm
    refine z_calli (z_runS (As := [.int (32 - x7), .int 32]) (rest := []) C0 ls_X9_74 (b_X9_harmonic e8) hW hS rfl hl.1 rfl (Nat.le_of_ble_eq_true rfl) dX9_rough_45 rfl rfl ⟨Nat.le_of_ble_eq_true rfl, Nat.le_of_ble_eq_true rfl⟩ ⟨Nat.le_refl _, Nat.le_refl _⟩) hS (fun H locs hW hS => ?_)
    cases hm
    exact r_iret C0 hr hlocks hW hS dX9_rough_48
  · rw [if_neg h3] at hm
    by_cases h10 : x1 = 1
    · rw [if_pos h10] at hm
      refine z_top (congrArg some h10) ?_
      refine lv_lookup (tgt := 49) hx hb dX9_rough_5 (by decide) rfl (by decide) ?_
      refine lv_aload_n hx hb dX9_rough_49 rfl (lv_at hl 0 rfl) ?_
      refine lv_iload_n hx hb dX9_rough_50 rfl (lv_at hl 1 rfl) ?_
      refine lv_iconst (v := 5) hx hb dX9_rough_51 (by decide) ?_
      refine lv_iadd hx hb dX9_rough_52 ?_
      replace hm := ob hm; obtain ⟨x11, e12, hm⟩ := hm
      refine r_aI C0 hW e12 dX9_rough_53 ?_
      refine lv_bipush (v := 8) hx hb dX9_rough_54 (by decide) ?_
      refine lv_icmp_ge (tgt := 67) hx hb dX9_rough_56 (by decide) (fun h13 => ?_) (fun h13 => ?_)
      · rw [if_pos h13] at hm
        refine lv_ldc (v := 458752) hx hb C0.2.2.2.1 (C0.2.2.2.2.1 _ (zin_18 _ (List.mem_of_getElem? (i := 16) rfl))) dX9_rough_67 ?_
        refine lv_aload_n hx hb dX9_rough_69 rfl (lv_at hl 0 rfl) ?_
        refine lv_iload_n hx hb dX9_rough_70 rfl (lv_at hl 1 rfl) ?_
        refine lv_bipush (v := 6) hx hb dX9_rough_71 (by decide) ?_
        refine lv_iadd hx hb dX9_rough_73 ?_
        refine lv_bipush (v := 8) hx hb dX9_rough_74 (by decide) ?_
        refine lv_iadd hx hb dX9_rough_76 ?_
        refine lv_iconst (v := 1) hx hb dX9_rough_77 (by decide) ?_
        refine lv_isub hx hb dX9_rough_78 ?_
        replace hm := ob hm; obtain ⟨x14, e15, hm⟩ := hm
        refine r_aI C0 hW e15 dX9_rough_79 ?_
        refine lv_iconst (v := 1) hx hb dX9_rough_80 (by decide) ?_
        refine lv_iadd hx hb dX9_rough_81 ?_
        replace hm := ob hm; obtain ⟨u16, e17, hm⟩ := hm
        refine lv_idiv hx hb dX9_rough_82 (ckD_ne e17) ?_
        cases hm
        exact r_iret C0 hr hlocks hW hS dX9_rough_83
      · rw [if_neg h13] at hm
        refine lv_aload_n hx hb dX9_rough_59 rfl (lv_at hl 0 rfl) ?_
        refine lv_iload_n hx hb dX9_rough_60 rfl (lv_at hl 1 rfl) ?_
        refine lv_iconst (v := 5) hx hb dX9_rough_61 (by decide) ?_
        refine lv_iadd hx hb dX9_rough_62 ?_
        replace hm := ob hm; obtain ⟨x18, e19, hm⟩ := hm
        refine r_aI C0 hW e19 dX9_rough_63 ?_
        refine lv_goto (tgt := 83) hx hb dX9_rough_64 (by decide) ?_
        cases hm
        exact r_iret C0 hr hlocks hW hS dX9_rough_83
    · rw [if_neg h10] at hm
      refine lv_lookup (tgt := 84) (off := 79) hx hb dX9_rough_5 (by decide) (show Op.lookupswitch.offset [(0, 27), (1, 44)] 79 _ = 79 from (lv_osw h3 (by decide)).trans ((lv_osw h10 (by decide)).trans (rfl))) (by decide) ?_
      refine lv_aload_n hx hb dX9_rough_84 rfl (lv_at hl 0 rfl) ?_
      refine lv_iload_n hx hb dX9_rough_85 rfl (lv_at hl 1 rfl) ?_
      replace hm := ob hm; obtain ⟨x21, e20, hm⟩ := hm
      refine z_calli (z_runS (As := [.ref v0, .int v1]) (rest := []) C0 ls_X9_80 (b_X9_byRegisters e20) hW hS rfl hl.1 rfl (Nat.le_of_ble_eq_true rfl) dX9_rough_86 rfl rfl ⟨Nat.le_of_ble_eq_true rfl, Nat.le_of_ble_eq_true rfl⟩ ⟨Nat.le_refl _, Nat.le_refl _⟩) hS (fun H locs hW hS => ?_)
      cases hm
      exact r_iret C0 hr hlocks hW hS dX9_rough_89
set_option maxHeartbeats 4000000 in
set_option maxRecDepth 100000 in
theorem b_X9_low {l : Launch} {D : va_G} {ca : Nat → ClassId} {A : Nat → Prop} {N : Nat} {σ : zS} {v0 : Nat} {v1 : Int32} {r0 : Int32} (hm : m_X9_low N σ v0 v1 = some r0) : Met l yX9_low (.code yX9_low cX9_low 3 (some .int) :: wsL_law) ({ frames := 1, cells := 0, slots := 0, locals := 23 } : Room) (va_Pc [.ref v0, .int v1] (zP D ca A σ)) (zQi r0 D ca A σ) 0 0 A := by
  refine zMk (by decide +kernel) (Nat.le_of_ble_eq_true rfl) ?_
  intro p e s m below meth c C0 hr hlocks hin hW ls hl
  have hx := C0.1
  have hb := C0.2.1
  have hS : va_S A s.heap s.heap [] := va_S.rf
  have hl : lv_has ls 3 [(0, .ref v0), (1, .int v1)] := hl
  unfold m_X9_low at hm
  refine lv_aload_n hx hb dX9_low_0 rfl (lv_at hl 0 rfl) ?_
  refine lv_iload_n hx hb dX9_low_1 rfl (lv_at hl 1 rfl) ?_
  refine lv_iconst (v := 0) hx hb dX9_low_2 (by decide) ?_
  refine lv_iadd hx hb dX9_low_3 ?_
  replace hm := ob hm; obtain ⟨x1, e2, hm⟩ := hm
  refine r_aI C0 hW e2 dX9_low_4 ?_
  refine lv_istore_n (lv' := [(2, .int x1), (0, .ref v0), (1, .int v1)]) hx hb dX9_low_5 rfl hl (by decide) rfl (fun ls hl => ?_)
  refine lv_iload_n hx hb dX9_low_6 rfl (lv_at hl 0 rfl) ?_
  refine lv_if_ne (tgt := 21) hx hb dX9_low_7 (by decide) (fun h3 => ?_) (fun h3 => ?_)
  · rw [if_neg h3] at hm
    refine lv_iload_n hx hb dX9_low_21 rfl (lv_at hl 0 rfl) ?_
    refine lv_iconst (v := 1) hx hb dX9_low_22 (by decide) ?_
    refine lv_icmp_ne (tgt := 34) hx hb dX9_low_23 (by decide) (fun h4 => ?_) (fun h4 => ?_)
    · rw [if_neg h4] at hm
      refine lv_aload_n hx hb dX9_low_34 rfl (lv_at hl 1 rfl) ?_
      refine lv_iload_n hx hb dX9_low_35 rfl (lv_at hl 2 rfl) ?_
      replace hm := ob hm; obtain ⟨x6, e5, hm⟩ := hm
      refine z_calli (z_runS (As := [.ref v0, .int v1]) (rest := []) C0 ls_X9_70 (b_X9_filled e5) hW hS rfl hl.1 rfl (Nat.le_of_ble_eq_true rfl) dX9_low_36 rfl rfl ⟨Nat.le_of_ble_eq_true rfl, Nat.le_of_ble_eq_true rfl⟩ ⟨Nat.le_refl _, Nat.le_refl _⟩) hS (fun H locs hW hS => ?_)
      cases hm
      exact r_iret C0 hr hlocks hW hS dX9_low_39
    · rw [if_pos h4] at hm
      refine lv_aload_n hx hb dX9_low_26 rfl (lv_at hl 1 rfl) ?_
      refine lv_iload_n hx hb dX9_low_27 rfl (lv_at hl 2 rfl) ?_
      refine lv_iconst (v := 5) hx hb dX9_low_28 (by decide) ?_
      refine lv_iadd hx hb dX9_low_29 ?_
      replace hm := ob hm; obtain ⟨x7, e8, hm⟩ := hm
      refine r_aI C0 hW e8 dX9_low_30 ?_
      refine lv_goto (tgt := 39) hx hb dX9_low_31 (by decide) ?_
      cases hm
      exact r_iret C0 hr hlocks hW hS dX9_low_39
  · rw [if_pos h3] at hm
    refine lv_aload_n hx hb dX9_low_10 rfl (lv_at hl 1 rfl) ?_
    refine lv_iload_n hx hb dX9_low_11 rfl (lv_at hl 2 rfl) ?_
    refine lv_iconst (v := 4) hx hb dX9_low_12 (by decide) ?_
    refine lv_iadd hx hb dX9_low_13 ?_
    replace hm := ob hm; obtain ⟨x9, e10, hm⟩ := hm
    refine r_aI C0 hW e10 dX9_low_14 ?_
    replace hm := ob hm; obtain ⟨x12, e11, hm⟩ := hm
    refine z_calli (z_runS (As := [.int x9]) (rest := []) C0 ls_X9_67 (b_X9_lit e11) hW hS rfl hl.1 rfl (Nat.le_of_ble_eq_true rfl) dX9_low_15 rfl rfl ⟨Nat.le_of_ble_eq_true rfl, Nat.le_of_ble_eq_true rfl⟩ ⟨Nat.le_refl _, Nat.le_refl _⟩) hS (fun H locs hW hS => ?_)
    refine lv_goto (tgt := 39) hx hb dX9_low_18 (by decide) ?_
    cases hm
    exact r_iret C0 hr hlocks hW hS dX9_low_39
set_option maxHeartbeats 4000000 in
set_option maxRecDepth 100000 in
theorem b_X9_high {l : Launch} {D : va_G} {ca : Nat → ClassId} {A : Nat → Prop} {N : Nat} {σ : zS} {v0 : Nat} {v1 : Int32} {r0 : Int32} (hm : m_X9_high N σ v0 v1 = some r0) : Met l yX9_high (.code yX9_high cX9_high 2 (some .int) :: wsL_law) ({ frames := 0, cells := 0, slots := 0, locals := 0 } : Room) (va_Pc [.ref v0, .int v1] (zP D ca A σ)) (zQi r0 D ca A σ) 0 0 A := by
  refine zMk (by decide +kernel) (Nat.le_of_ble_eq_true rfl) ?_
  intro p e s m below meth c C0 hr hlocks hin hW ls hl
  have hx := C0.1
  have hb := C0.2.1
  have hS : va_S A s.heap s.heap [] := va_S.rf
  have hl : lv_has ls 2 [(0, .ref v0), (1, .int v1)] := hl
  unfold m_X9_high at hm
  refine lv_aload_n hx hb dX9_high_0 rfl (lv_at hl 0 rfl) ?_
  refine lv_iload_n hx hb dX9_high_1 rfl (lv_at hl 1 rfl) ?_
  refine lv_iconst (v := 2) hx hb dX9_high_2 (by decide) ?_
  refine lv_iadd hx hb dX9_high_3 ?_
  replace hm := ob hm; obtain ⟨x1, e2, hm⟩ := hm
  refine r_aI C0 hW e2 dX9_high_4 ?_
  refine lv_sipush (v := 1000) hx hb dX9_high_5 (by decide) ?_
  refine lv_icmp_ge (tgt := 19) hx hb dX9_high_8 (by decide) (fun h3 => ?_) (fun h3 => ?_)
  · rw [if_pos h3] at hm
    refine lv_sipush (v := 1000) hx hb dX9_high_19 (by decide) ?_
    cases hm
    exact r_iret C0 hr hlocks hW hS dX9_high_22
  · rw [if_neg h3] at hm
    refine lv_aload_n hx hb dX9_high_11 rfl (lv_at hl 0 rfl) ?_
    refine lv_iload_n hx hb dX9_high_12 rfl (lv_at hl 1 rfl) ?_
    refine lv_iconst (v := 2) hx hb dX9_high_13 (by decide) ?_
    refine lv_iadd hx hb dX9_high_14 ?_
    replace hm := ob hm; obtain ⟨x4, e5, hm⟩ := hm
    refine r_aI C0 hW e5 dX9_high_15 ?_
    refine lv_goto (tgt := 22) hx hb dX9_high_16 (by decide) ?_
    cases hm
    exact r_iret C0 hr hlocks hW hS dX9_high_22
set_option maxHeartbeats 4000000 in
set_option maxRecDepth 100000 in
theorem b_X9_told {l : Launch} {D : va_G} {ca : Nat → ClassId} {A : Nat → Prop} {N : Nat} {σ : zS} {v0 : Nat} {v1 : Int32} {r0 : Int32} (hm : m_X9_told N σ v0 v1 = some r0) : Met l yX9_told (.code yX9_told cX9_told 5 (some .int) :: wsL_law) ({ frames := 3, cells := 0, slots := 0, locals := 68 } : Room) (va_Pc [.ref v0, .int v1] (zP D ca A σ)) (zQi r0 D ca A σ) 0 0 A := by
  refine zMk (by decide +kernel) (Nat.le_of_ble_eq_true rfl) ?_
  intro p e s m below meth c C0 hr hlocks hin hW ls hl
  have hx := C0.1
  have hb := C0.2.1
  have hS : va_S A s.heap s.heap [] := va_S.rf
  have hl : lv_has ls 5 [(0, .ref v0), (1, .int v1)] := hl
  unfold m_X9_told at hm
  refine lv_aload_n hx hb dX9_told_0 rfl (lv_at hl 0 rfl) ?_
  refine lv_iload_n hx hb dX9_told_1 rfl (lv_at hl 1 rfl) ?_
  replace hm := ob hm; obtain ⟨x2, e1, hm⟩ := hm
  refine z_calli (z_runS (As := [.ref v0, .int v1]) (rest := []) C0 ls_X9_83 (b_X9_rough e1) hW hS rfl hl.1 rfl (Nat.le_of_ble_eq_true rfl) dX9_told_2 rfl rfl ⟨Nat.le_of_ble_eq_true rfl, Nat.le_of_ble_eq_true rfl⟩ ⟨Nat.le_refl _, Nat.le_refl _⟩) hS (fun H locs hW hS => ?_)
  refine lv_istore_n (lv' := [(2, .int x2), (0, .ref v0), (1, .int v1)]) hx hb dX9_told_5 rfl hl (by decide) rfl (fun ls hl => ?_)
  refine lv_aload_n hx hb dX9_told_6 rfl (lv_at hl 1 rfl) ?_
  refine lv_iload_n hx hb dX9_told_7 rfl (lv_at hl 2 rfl) ?_
  replace hm := ob hm; obtain ⟨x4, e3, hm⟩ := hm
  refine z_calli (z_runS (As := [.ref v0, .int v1]) (rest := []) C0 ls_X9_86 (b_X9_low e3) hW hS rfl hl.1 rfl (Nat.le_of_ble_eq_true rfl) dX9_told_8 rfl rfl ⟨Nat.le_of_ble_eq_true rfl, Nat.le_of_ble_eq_true rfl⟩ ⟨Nat.le_refl _, Nat.le_refl _⟩) hS (fun H locs hW hS => ?_)
  refine lv_istore_n (lv' := [(3, .int x4), (2, .int x2), (0, .ref v0), (1, .int v1)]) hx hb dX9_told_11 rfl hl (by decide) rfl (fun ls hl => ?_)
  refine lv_aload_n hx hb dX9_told_12 rfl (lv_at hl 2 rfl) ?_
  refine lv_iload_n hx hb dX9_told_13 rfl (lv_at hl 3 rfl) ?_
  replace hm := ob hm; obtain ⟨x6, e5, hm⟩ := hm
  refine z_calli (z_runS (As := [.ref v0, .int v1]) (rest := []) C0 ls_X9_89 (b_X9_high e5) hW hS rfl hl.1 rfl (Nat.le_of_ble_eq_true rfl) dX9_told_14 rfl rfl ⟨Nat.le_of_ble_eq_true rfl, Nat.le_of_ble_eq_true rfl⟩ ⟨Nat.le_refl _, Nat.le_refl _⟩) hS (fun H locs hW hS => ?_)
  refine lv_istore (lv' := [(4, .int x6), (3, .int x4), (2, .int x2), (0, .ref v0), (1, .int v1)]) hx hb dX9_told_17 hl (by decide) rfl (fun ls hl => ?_)
  refine lv_iload_n hx hb dX9_told_19 rfl (lv_at hl 2 rfl) ?_
  refine lv_iload_n hx hb dX9_told_20 rfl (lv_at hl 1 rfl) ?_
  replace hm := ob hm; obtain ⟨y9, e11, hm⟩ := hm
  have J29_7 : ∀ (H : Heap) (locs : List Loc) (ls : Array Slot), zW D ca A σ H → va_S A s.heap H locs → lv_has ls 5 [(4, .int x6)] → W p l e ({ frames := 3, cells := 0, slots := 0, locals := 68 } : Room) s m (List.toArray [.ref v0, .int v1]) below meth c H locs 0 0 (MQ below (zQi r0 D ca A σ) (List.toArray [.ref v0, .int v1]) s 0 0 A) (F0 m 29 ls [.int y9]) := by
    intro H locs ls hW hS hl
    refine lv_istore_n (lv' := [(2, .int y9), (4, .int x6)]) hx hb dX9_told_29 rfl hl (by decide) rfl (fun ls hl => ?_)
    refine lv_iload_n hx hb dX9_told_30 rfl (lv_at hl 0 rfl) ?_
    refine lv_iload hx hb dX9_told_31 (lv_at hl 1 rfl) ?_
    refine lv_icmp_le (tgt := 41) hx hb dX9_told_33 (by decide) (fun h10 => ?_) (fun h10 => ?_)
    · rw [if_pos h10] at hm
      refine lv_iload_n hx hb dX9_told_41 rfl (lv_at hl 0 rfl) ?_
      cases hm
      exact r_iret C0 hr hlocks hW hS dX9_told_42
    · rw [if_neg h10] at hm
      refine lv_iload hx hb dX9_told_36 (lv_at hl 1 rfl) ?_
      refine lv_goto (tgt := 42) hx hb dX9_told_38 (by decide) ?_
      cases hm
      exact r_iret C0 hr hlocks hW hS dX9_told_42
  clear hm
  have hm := e11
  clear e11
  refine lv_icmp_ge (tgt := 28) hx hb dX9_told_21 (by decide) (fun h7 => ?_) (fun h7 => ?_)
  · rw [if_pos h7] at hm
    refine lv_iload_n hx hb dX9_told_28 rfl (lv_at hl 2 rfl) ?_
    have hq1 := Option.some.inj hm; subst hq1
    exact J29_7 _ _ _ hW hS (lv_sub hl [0] rfl)
  · rw [if_neg h7] at hm
    refine lv_iload_n hx hb dX9_told_24 rfl (lv_at hl 1 rfl) ?_
    refine lv_goto (tgt := 29) hx hb dX9_told_25 (by decide) ?_
    have hq1 := Option.some.inj hm; subst hq1
    exact J29_7 _ _ _ hW hS (lv_sub hl [0] rfl)
set_option maxHeartbeats 4000000 in
set_option maxRecDepth 100000 in
theorem b_X9_toldOf {l : Launch} {D : va_G} {ca : Nat → ClassId} {A : Nat → Prop} {N : Nat} {σ : zS} {v0 : Nat} {v1 : Int32} {r0 : Int32} (hm : m_X9_toldOf N σ v0 v1 = some r0) : Met l yX9_toldOf (.code yX9_toldOf cX9_toldOf 2 (some .int) :: wsL_law) ({ frames := 4, cells := 0, slots := 0, locals := 92 } : Room) (va_Pc [.ref v0, .int v1] (zP D ca A σ)) (zQi r0 D ca A σ) 0 0 A := by
  refine zMk (by decide +kernel) (Nat.le_of_ble_eq_true rfl) ?_
  intro p e s m below meth c C0 hr hlocks hin hW ls hl
  have hx := C0.1
  have hb := C0.2.1
  have hS : va_S A s.heap s.heap [] := va_S.rf
  have hl : lv_has ls 2 [(0, .ref v0), (1, .int v1)] := hl
  unfold m_X9_toldOf at hm
  refine lv_aload_n hx hb dX9_toldOf_0 rfl (lv_at hl 0 rfl) ?_
  replace hm := ob hm; obtain ⟨a1, e2, hm⟩ := hm
  refine r_getA C0 hW fl_X9_7 e2 dX9_toldOf_1 ?_
  refine lv_bipush (v := 23) hx hb dX9_toldOf_4 (by decide) ?_
  refine lv_iload_n hx hb dX9_toldOf_6 rfl (lv_at hl 1 rfl) ?_
  refine lv_imul hx hb dX9_toldOf_7 ?_
  replace hm := ob hm; obtain ⟨x4, e3, hm⟩ := hm
  refine z_calli (z_runS (As := [.ref a1, .int (23 * v1)]) (rest := []) C0 ls_X9_92 (b_X9_told e3) hW hS rfl hl.1 rfl (Nat.le_of_ble_eq_true rfl) dX9_toldOf_8 rfl rfl ⟨Nat.le_of_ble_eq_true rfl, Nat.le_of_ble_eq_true rfl⟩ ⟨Nat.le_refl _, Nat.le_refl _⟩) hS (fun H locs hW hS => ?_)
  cases hm
  exact r_iret C0 hr hlocks hW hS dX9_toldOf_11
set_option maxHeartbeats 4000000 in
set_option maxRecDepth 100000 in
theorem w_X9_seesRow_L65 {p : Program} {l : Launch} {e : Env} {s : State} {m : MethodId} {args : Array Value} {below : List Frame} {meth : Method} {c : Code} {D : va_G} {ca : Nat → ClassId} {A : Nat → Prop} {Q : State → Prop} (N : Nat) : ∀ (n : Nat) {σ : zS} {v0 : Nat} {v1 : Int32} {v3 : Int32} {v4 : Int32} {v5 : Int32} {v6 : Int32} {σ' : zS} {H : Heap} {locs : List Loc} {ls : Array Slot}, m_X9_seesRow_L65 N n σ v0 v1 v3 v4 v5 v6 = some σ' → zC p s m args c RX9 cX9_seesRow 7 D ca A → zW D ca A σ H → va_S A s.heap H locs → lv_has ls 7 [(0, .ref v0), (1, .int v1), (3, .int v3), (4, .int v4), (5, .int v5), (6, .int v6)] → (∀ (H : Heap) (locs : List Loc) (ls : Array Slot), zW D ca A σ' H → va_S A s.heap H locs → lv_has ls 7 [(0, .ref v0), (1, .int v1)] → W p l e ({ frames := 5, cells := 0, slots := 0, locals := 113 } : Room) s m args below meth c H locs 0 0 Q (F0 m 95 ls [])) → W p l e ({ frames := 5, cells := 0, slots := 0, locals := 113 } : Room) s m args below meth c H locs 0 0 Q (F0 m 65 ls []) := by
  intro n
  induction n with
  | zero =>
    intro σ v0 v1 v3 v4 v5 v6 σ' H locs ls hm C0 hW hS hl kk
    rw [m_X9_seesRow_L65] at hm
    cases hm
  | succ n ih =>
    intro σ v0 v1 v3 v4 v5 v6 σ' H locs ls hm C0 hW hS hl kk
    rw [m_X9_seesRow_L65] at hm
    have hx := C0.1
    have hb := C0.2.1
    refine lv_iload hx hb dX9_seesRow_65 (lv_at hl 5 rfl) ?_
    refine lv_iload hx hb dX9_seesRow_67 (lv_at hl 3 rfl) ?_
    refine lv_icmp_ge (tgt := 95) hx hb dX9_seesRow_69 (by decide) (fun h20 => ?_) (fun h20 => ?_)
    · rw [if_pos h20] at hm
      cases hm
      exact kk _ _ _ hW hS (lv_sub hl [0, 1] rfl)
    · rw [if_neg h20] at hm
      refine lv_aload_n hx hb dX9_seesRow_72 rfl (lv_at hl 0 rfl) ?_
      refine lv_iload_n hx hb dX9_seesRow_73 rfl (lv_at hl 1 rfl) ?_
      refine lv_iload hx hb dX9_seesRow_74 (lv_at hl 4 rfl) ?_
      replace hm := ob hm; obtain ⟨u21, e22, hm⟩ := hm
      replace hm := ob hm; obtain ⟨σ24, e23, hm⟩ := hm
      refine z_callv (z_runV (As := [.int v1, .int v5]) (rest := []) (ci := 9) rfl rfl C0 lv_X9_123 (b_X9_sees e23) hW hS e22 rfl hl.1 rfl (Nat.le_of_ble_eq_true rfl) dX9_seesRow_76 rfl rfl ⟨Nat.le_of_ble_eq_true rfl, Nat.le_of_ble_eq_true rfl⟩ ⟨Nat.le_refl _, Nat.le_refl _⟩) hS (fun H locs hW hS => ?_)
      refine lv_iload hx hb dX9_seesRow_79 (lv_at hl 4 rfl) ?_
      refine lv_iload_n hx hb dX9_seesRow_81 rfl (lv_at hl 2 rfl) ?_
      refine lv_iadd hx hb dX9_seesRow_82 ?_
      refine lv_sipush (v := 1000) hx hb dX9_seesRow_83 (by decide) ?_
      refine r_irem hx hb dX9_seesRow_86 (by decide) ?_
      replace hm := ob hm; obtain ⟨x25, e26, hm⟩ := hm
      refine z_top e26 ?_
      refine lv_istore (lv' := [(5, .int x25), (0, .ref v0), (1, .int v1), (3, .int v3), (4, .int v4), (6, .int v6)]) hx hb dX9_seesRow_87 hl (by decide) rfl (fun ls hl => ?_)
      replace hm := ob hm; obtain ⟨x27, e28, hm⟩ := hm
      refine lv_iinc (v := x27) (lv' := [(6, .int x27), (5, .int x25), (0, .ref v0), (1, .int v1), (3, .int v3), (4, .int v4)]) hx hb dX9_seesRow_89 hl (k := 5) rfl (Option.some.inj e28) (by decide) rfl (fun ls hl => ?_)
      refine lv_goto (tgt := 65) hx hb dX9_seesRow_92 (by decide) ?_
      exact ih hm C0 hW hS (lv_sub hl [2, 3, 4, 5, 1, 0] rfl) kk
set_option maxHeartbeats 4000000 in
set_option maxRecDepth 100000 in
theorem b_X9_seesRow {l : Launch} {D : va_G} {ca : Nat → ClassId} {A : Nat → Prop} {N : Nat} {σ : zS} {v0 : Nat} {v1 : Int32} {v2 : Int32} {v3 : Int32} {v4 : Int32} {r0 : Int32} {σ' : zS} (hm : m_X9_seesRow N σ v0 v1 v2 v3 v4 = some (r0, σ')) : Met l yX9_seesRow (.code yX9_seesRow cX9_seesRow 7 (some .int) :: wsL_law) ({ frames := 5, cells := 0, slots := 0, locals := 113 } : Room) (va_Pc [.ref v0, .int v1, .int v2, .int v3, .int v4] (zP D ca A σ)) (zQi r0 D ca A σ') 0 0 A := by
  refine zMk (by decide +kernel) (Nat.le_of_ble_eq_true rfl) ?_
  intro p e s m below meth c C0 hr hlocks hin hW ls hl
  have hx := C0.1
  have hb := C0.2.1
  have hS : va_S A s.heap s.heap [] := va_S.rf
  have hl : lv_has ls 7 [(0, .ref v0), (1, .int v1), (2, .int v2), (3, .int v3), (4, .int v4)] := hl
  unfold m_X9_seesRow at hm
  refine lv_aload_n hx hb dX9_seesRow_0 rfl (lv_at hl 0 rfl) ?_
  refine lv_iload_n hx hb dX9_seesRow_1 rfl (lv_at hl 1 rfl) ?_
  replace hm := ob hm; obtain ⟨u1, e2, hm⟩ := hm
  replace hm := ob hm; obtain ⟨x4, e3, hm⟩ := hm
  refine z_calli (z_runV (As := [.int v1]) (rest := []) (ci := 9) rfl rfl C0 lv_X9_116 (b_X9_isTable e3) hW hS e2 rfl hl.1 rfl (Nat.le_of_ble_eq_true rfl) dX9_seesRow_2 rfl rfl ⟨Nat.le_of_ble_eq_true rfl, Nat.le_of_ble_eq_true rfl⟩ ⟨Nat.le_refl _, Nat.le_refl _⟩) hS (fun H locs hW hS => ?_)
  refine lv_if_eq (tgt := 37) hx hb dX9_seesRow_5 (by decide) (fun h5 => ?_) (fun h5 => ?_)
  · rw [if_pos h5] at hm
    refine lv_iconst (v := (-1)) hx hb dX9_seesRow_37 (by decide) ?_
    obtain ⟨hq8, hq9⟩ := Prod.mk.inj (Option.some.inj hm); subst hq8; subst hq9
    exact r_iret C0 hr hlocks hW hS dX9_seesRow_38
  · rw [if_neg h5] at hm
    refine lv_iload_n hx hb dX9_seesRow_8 rfl (lv_at hl 2 rfl) ?_
    replace hm := ob hm; obtain ⟨x7, e6, hm⟩ := hm
    refine z_calli (z_runS (As := [.int v2]) (rest := []) C0 ls_X9_120 (b_X9_isThing e6) hW hS rfl hl.1 rfl (Nat.le_of_ble_eq_true rfl) dX9_seesRow_9 rfl rfl ⟨Nat.le_of_ble_eq_true rfl, Nat.le_of_ble_eq_true rfl⟩ ⟨Nat.le_refl _, Nat.le_refl _⟩) hS (fun H locs hW hS => ?_)
    refine lv_if_eq (tgt := 37) hx hb dX9_seesRow_12 (by decide) (fun h8 => ?_) (fun h8 => ?_)
    · rw [if_pos h8] at hm
      refine lv_iconst (v := (-1)) hx hb dX9_seesRow_37 (by decide) ?_
      obtain ⟨hq8, hq9⟩ := Prod.mk.inj (Option.some.inj hm); subst hq8; subst hq9
      exact r_iret C0 hr hlocks hW hS dX9_seesRow_38
    · rw [if_neg h8] at hm
      refine lv_iload_n hx hb dX9_seesRow_15 rfl (lv_at hl 3 rfl) ?_
      refine lv_iconst (v := 0) hx hb dX9_seesRow_16 (by decide) ?_
      refine lv_sipush (v := 999) hx hb dX9_seesRow_17 (by decide) ?_
      replace hm := ob hm; obtain ⟨x10, e9, hm⟩ := hm
      refine z_calli (z_runS (As := [.int v3, .int 0, .int 999]) (rest := []) C0 ls_X9_49 (b_X9_in e9) hW hS rfl hl.1 rfl (Nat.le_of_ble_eq_true rfl) dX9_seesRow_20 rfl rfl ⟨Nat.le_of_ble_eq_true rfl, Nat.le_of_ble_eq_true rfl⟩ ⟨Nat.le_refl _, Nat.le_refl _⟩) hS (fun H locs hW hS => ?_)
      refine lv_if_eq (tgt := 37) hx hb dX9_seesRow_23 (by decide) (fun h11 => ?_) (fun h11 => ?_)
      · rw [if_pos h11] at hm
        refine lv_iconst (v := (-1)) hx hb dX9_seesRow_37 (by decide) ?_
        obtain ⟨hq8, hq9⟩ := Prod.mk.inj (Option.some.inj hm); subst hq8; subst hq9
        exact r_iret C0 hr hlocks hW hS dX9_seesRow_38
      · rw [if_neg h11] at hm
        refine lv_iload hx hb dX9_seesRow_26 (lv_at hl 4 rfl) ?_
        refine lv_iconst (v := 1) hx hb dX9_seesRow_28 (by decide) ?_
        refine lv_bipush (v := 100) hx hb dX9_seesRow_29 (by decide) ?_
        replace hm := ob hm; obtain ⟨x13, e12, hm⟩ := hm
        refine z_calli (z_runS (As := [.int v4, .int 1, .int 100]) (rest := []) C0 ls_X9_49 (b_X9_in e12) hW hS rfl hl.1 rfl (Nat.le_of_ble_eq_true rfl) dX9_seesRow_31 rfl rfl ⟨Nat.le_of_ble_eq_true rfl, Nat.le_of_ble_eq_true rfl⟩ ⟨Nat.le_refl _, Nat.le_refl _⟩) hS (fun H locs hW hS => ?_)
        refine lv_if_ne (tgt := 39) hx hb dX9_seesRow_34 (by decide) (fun h14 => ?_) (fun h14 => ?_)
        · rw [if_neg h14] at hm
          refine lv_aload_n hx hb dX9_seesRow_39 rfl (lv_at hl 0 rfl) ?_
          replace hm := ob hm; obtain ⟨a15, e16, hm⟩ := hm
          refine r_getA C0 hW fl_X9_7 e16 dX9_seesRow_40 ?_
          refine lv_sipush (v := 139) hx hb dX9_seesRow_43 (by decide) ?_
          replace hm := ob hm; obtain ⟨x17, e18, hm⟩ := hm
          refine r_aI C0 hW e18 dX9_seesRow_46 ?_
          refine lv_iload hx hb dX9_seesRow_47 (lv_at hl 4 rfl) ?_
          refine lv_iadd hx hb dX9_seesRow_49 ?_
          refine lv_sipush (v := 20000) hx hb dX9_seesRow_50 (by decide) ?_
          refine lv_icmp_le (tgt := 59) hx hb dX9_seesRow_53 (by decide) (fun h19 => ?_) (fun h19 => ?_)
          · rw [if_pos h19] at hm
            refine lv_iload_n hx hb dX9_seesRow_59 rfl (lv_at hl 2 rfl) ?_
            refine lv_istore (lv' := [(5, .int v2), (0, .ref v0), (1, .int v1), (2, .int v2), (3, .int v3), (4, .int v4)]) hx hb dX9_seesRow_60 hl (by decide) rfl (fun ls hl => ?_)
            refine lv_iconst (v := 0) hx hb dX9_seesRow_62 (by decide) ?_
            refine lv_istore (lv' := [(6, .int 0), (5, .int v2), (0, .ref v0), (1, .int v1), (2, .int v2), (3, .int v3), (4, .int v4)]) hx hb dX9_seesRow_63 hl (by decide) rfl (fun ls hl => ?_)
            replace hm := ob hm; obtain ⟨σ29, e30, hm⟩ := hm
            refine w_X9_seesRow_L65 N N e30 C0 hW hS (lv_sub hl [2, 3, 5, 6, 1, 0] rfl) (fun H locs ls hW hS hl => ?_)
            refine lv_aload_n hx hb dX9_seesRow_95 rfl (lv_at hl 0 rfl) ?_
            refine lv_iload_n hx hb dX9_seesRow_96 rfl (lv_at hl 1 rfl) ?_
            replace hm := ob hm; obtain ⟨u31, e32, hm⟩ := hm
            replace hm := ob hm; obtain ⟨x34, e33, hm⟩ := hm
            refine z_calli (z_runV (As := [.int v1]) (rest := []) (ci := 9) rfl rfl C0 lv_X9_95 (b_X9_toldOf e33) hW hS e32 rfl hl.1 rfl (Nat.le_of_ble_eq_true rfl) dX9_seesRow_97 rfl rfl ⟨Nat.le_of_ble_eq_true rfl, Nat.le_of_ble_eq_true rfl⟩ ⟨Nat.le_refl _, Nat.le_refl _⟩) hS (fun H locs hW hS => ?_)
            obtain ⟨hq8, hq9⟩ := Prod.mk.inj (Option.some.inj hm); subst hq8; subst hq9
            exact r_iret C0 hr hlocks hW hS dX9_seesRow_100
          · rw [if_neg h19] at hm
            refine lv_bipush (v := (-3)) hx hb dX9_seesRow_56 (by decide) ?_
            obtain ⟨hq8, hq9⟩ := Prod.mk.inj (Option.some.inj hm); subst hq8; subst hq9
            exact r_iret C0 hr hlocks hW hS dX9_seesRow_58
        · rw [if_pos h14] at hm
          refine lv_iconst (v := (-1)) hx hb dX9_seesRow_37 (by decide) ?_
          obtain ⟨hq8, hq9⟩ := Prod.mk.inj (Option.some.inj hm); subst hq8; subst hq9
          exact r_iret C0 hr hlocks hW hS dX9_seesRow_38
set_option maxHeartbeats 4000000 in
set_option maxRecDepth 100000 in
theorem w_X9_swap_L2 {p : Program} {l : Launch} {e : Env} {s : State} {m : MethodId} {args : Array Value} {below : List Frame} {meth : Method} {c : Code} {D : va_G} {ca : Nat → ClassId} {A : Nat → Prop} {Q : State → Prop} (N : Nat) : ∀ (n : Nat) {σ : zS} {v0 : Nat} {v1 : Int32} {σ' : zS} {H : Heap} {locs : List Loc} {ls : Array Slot}, m_X9_swap_L2 N n σ v0 v1 = some σ' → zC p s m args c RX9 cX9_swap 3 D ca A → zW D ca A σ H → va_S A s.heap H locs → lv_has ls 3 [(0, .ref v0), (1, .int v1)] → (∀ (H : Heap) (locs : List Loc) (ls : Array Slot), zW D ca A σ' H → va_S A s.heap H locs → lv_has ls 3 [] → W p l e ({ frames := 0, cells := 0, slots := 0, locals := 0 } : Room) s m args below meth c H locs 0 0 Q (F0 m 41 ls [])) → W p l e ({ frames := 0, cells := 0, slots := 0, locals := 0 } : Room) s m args below meth c H locs 0 0 Q (F0 m 2 ls []) := by
  intro n
  induction n with
  | zero =>
    intro σ v0 v1 σ' H locs ls hm C0 hW hS hl kk
    rw [m_X9_swap_L2] at hm
    cases hm
  | succ n ih =>
    intro σ v0 v1 σ' H locs ls hm C0 hW hS hl kk
    rw [m_X9_swap_L2] at hm
    have hx := C0.1
    have hb := C0.2.1
    refine lv_iload_n hx hb dX9_swap_2 rfl (lv_at hl 1 rfl) ?_
    refine lv_sipush (v := 6165) hx hb dX9_swap_3 (by decide) ?_
    refine lv_icmp_ge (tgt := 41) hx hb dX9_swap_6 (by decide) (fun h1 => ?_) (fun h1 => ?_)
    · rw [if_pos h1] at hm
      cases hm
      exact kk _ _ _ hW hS (lv_sub hl [] rfl)
    · rw [if_neg h1] at hm
      refine lv_aload_n hx hb dX9_swap_9 rfl (lv_at hl 0 rfl) ?_
      replace hm := ob hm; obtain ⟨a2, e3, hm⟩ := hm
      refine r_getA C0 hW fl_X9_7 e3 dX9_swap_10 ?_
      refine lv_iload_n hx hb dX9_swap_13 rfl (lv_at hl 1 rfl) ?_
      replace hm := ob hm; obtain ⟨x4, e5, hm⟩ := hm
      refine r_aI C0 hW e5 dX9_swap_14 ?_
      refine lv_istore_n (lv' := [(2, .int x4), (0, .ref v0), (1, .int v1)]) hx hb dX9_swap_15 rfl hl (by decide) rfl (fun ls hl => ?_)
      refine lv_aload_n hx hb dX9_swap_16 rfl (lv_at hl 1 rfl) ?_
      replace hm := ob hm; obtain ⟨a6, e7, hm⟩ := hm
      refine r_getA C0 hW fl_X9_7 e7 dX9_swap_17 ?_
      refine lv_iload_n hx hb dX9_swap_20 rfl (lv_at hl 2 rfl) ?_
      refine lv_aload_n hx hb dX9_swap_21 rfl (lv_at hl 1 rfl) ?_
      replace hm := ob hm; obtain ⟨a8, e9, hm⟩ := hm
      refine r_getA C0 hW fl_X9_13 e9 dX9_swap_22 ?_
      refine lv_iload_n hx hb dX9_swap_25 rfl (lv_at hl 2 rfl) ?_
      replace hm := ob hm; obtain ⟨x10, e11, hm⟩ := hm
      refine r_aI C0 hW e11 dX9_swap_26 ?_
      replace hm := ob hm; obtain ⟨σ12, e13, hm⟩ := hm
      refine r_uI C0 hW hS e13 dX9_swap_27 (fun H locs hW hS => ?_)
      refine lv_aload_n hx hb dX9_swap_28 rfl (lv_at hl 1 rfl) ?_
      replace hm := ob hm; obtain ⟨a14, e15, hm⟩ := hm
      refine r_getA C0 hW fl_X9_13 e15 dX9_swap_29 ?_
      refine lv_iload_n hx hb dX9_swap_32 rfl (lv_at hl 2 rfl) ?_
      refine lv_iload_n hx hb dX9_swap_33 rfl (lv_at hl 0 rfl) ?_
      replace hm := ob hm; obtain ⟨σ16, e17, hm⟩ := hm
      refine r_uI C0 hW hS e17 dX9_swap_34 (fun H locs hW hS => ?_)
      replace hm := ob hm; obtain ⟨x18, e19, hm⟩ := hm
      refine lv_iinc (v := x18) (lv' := [(1, .int x18), (2, .int x4), (0, .ref v0)]) hx hb dX9_swap_35 hl (k := 2) rfl (Option.some.inj e19) (by decide) rfl (fun ls hl => ?_)
      refine lv_goto (tgt := 2) hx hb dX9_swap_38 (by decide) ?_
      exact ih hm C0 hW hS (lv_sub hl [2, 0] rfl) kk
set_option maxHeartbeats 4000000 in
set_option maxRecDepth 100000 in
theorem b_X9_swap {l : Launch} {D : va_G} {ca : Nat → ClassId} {A : Nat → Prop} {N : Nat} {σ : zS} {v0 : Nat} {σ' : zS} (hm : m_X9_swap N σ v0 = some σ') : Met l yX9_swap (.code yX9_swap cX9_swap 3 none :: wsL_law) ({ frames := 0, cells := 0, slots := 0, locals := 0 } : Room) (va_Pc [.ref v0] (zP D ca A σ)) (zQv D ca A σ') 0 0 A := by
  refine zMk (by decide +kernel) (Nat.le_of_ble_eq_true rfl) ?_
  intro p e s m below meth c C0 hr hlocks hin hW ls hl
  have hx := C0.1
  have hb := C0.2.1
  have hS : va_S A s.heap s.heap [] := va_S.rf
  have hl : lv_has ls 3 [(0, .ref v0)] := hl
  unfold m_X9_swap at hm
  refine lv_iconst (v := 0) hx hb dX9_swap_0 (by decide) ?_
  refine lv_istore_n (lv' := [(1, .int 0), (0, .ref v0)]) hx hb dX9_swap_1 rfl hl (by decide) rfl (fun ls hl => ?_)
  replace hm := ob hm; obtain ⟨σ20, e21, hm⟩ := hm
  refine w_X9_swap_L2 N N e21 C0 hW hS (lv_sub hl [1, 0] rfl) (fun H locs ls hW hS hl => ?_)
  cases hm
  exact r_vret C0 hr hlocks hW hS dX9_swap_41
set_option maxHeartbeats 4000000 in
set_option maxRecDepth 100000 in
theorem b_X9_lays {l : Launch} {D : va_G} {ca : Nat → ClassId} {A : Nat → Prop} {N : Nat} {σ : zS} {v0 : Nat} {v1 : Int32} {σ' : zS} (hm : m_X9_lays N σ v0 v1 = some σ') : Met l yX9_lays (.code yX9_lays cX9_lays 2 none :: wsL_law) ({ frames := 1, cells := 0, slots := 0, locals := 22 } : Room) (va_Pc [.ref v0, .int v1] (zP D ca A σ)) (zQv D ca A σ') 0 0 A := by
  refine zMk (by decide +kernel) (Nat.le_of_ble_eq_true rfl) ?_
  intro p e s m below meth c C0 hr hlocks hin hW ls hl
  have hx := C0.1
  have hb := C0.2.1
  have hS : va_S A s.heap s.heap [] := va_S.rf
  have hl : lv_has ls 2 [(0, .ref v0), (1, .int v1)] := hl
  unfold m_X9_lays at hm
  refine lv_iload_n hx hb dX9_lays_0 rfl (lv_at hl 1 rfl) ?_
  by_cases h1 : v1 = 0
  · rw [if_pos h1] at hm
    refine z_top (congrArg some h1) ?_
    refine lv_tableIn (tgt := 28) hx hb dX9_lays_1 (by decide) (by decide) rfl (by decide) ?_
    refine lv_aload_n hx hb dX9_lays_28 rfl (lv_at hl 0 rfl) ?_
    replace hm := ob hm; obtain ⟨a2, e3, hm⟩ := hm
    refine r_getA C0 hW fl_X9_7 e3 dX9_lays_29 ?_
    refine lv_aload_n hx hb dX9_lays_32 rfl (lv_at hl 0 rfl) ?_
    replace hm := ob hm; obtain ⟨a4, e5, hm⟩ := hm
    refine r_getA C0 hW fl_X9_16 e5 dX9_lays_33 ?_
    replace hm := ob hm; obtain ⟨σ7, e6, hm⟩ := hm
    refine z_callv (z_runS (As := [.ref a2, .ref a4]) (rest := []) C0 ls_X9_34 (b_X9_copy e6) hW hS rfl hl.1 rfl (Nat.le_of_ble_eq_true rfl) dX9_lays_36 rfl rfl ⟨Nat.le_of_ble_eq_true rfl, Nat.le_of_ble_eq_true rfl⟩ ⟨Nat.le_refl _, Nat.le_refl _⟩) hS (fun H locs hW hS => ?_)
    refine lv_goto (tgt := 81) hx hb dX9_lays_39 (by decide) ?_
    cases hm
    exact r_vret C0 hr hlocks hW hS dX9_lays_81
  · rw [if_neg h1] at hm
    by_cases h8 : v1 = 1
    · rw [if_pos h8] at hm
      refine z_top (congrArg some h8) ?_
      refine lv_tableIn (tgt := 42) hx hb dX9_lays_1 (by decide) (by decide) rfl (by decide) ?_
      refine lv_aload_n hx hb dX9_lays_42 rfl (lv_at hl 0 rfl) ?_
      replace hm := ob hm; obtain ⟨a9, e10, hm⟩ := hm
      refine r_getA C0 hW fl_X9_7 e10 dX9_lays_43 ?_
      refine lv_aload_n hx hb dX9_lays_46 rfl (lv_at hl 0 rfl) ?_
      replace hm := ob hm; obtain ⟨a11, e12, hm⟩ := hm
      refine r_getA C0 hW fl_X9_19 e12 dX9_lays_47 ?_
      replace hm := ob hm; obtain ⟨σ14, e13, hm⟩ := hm
      refine z_callv (z_runS (As := [.ref a9, .ref a11]) (rest := []) C0 ls_X9_34 (b_X9_copy e13) hW hS rfl hl.1 rfl (Nat.le_of_ble_eq_true rfl) dX9_lays_50 rfl rfl ⟨Nat.le_of_ble_eq_true rfl, Nat.le_of_ble_eq_true rfl⟩ ⟨Nat.le_refl _, Nat.le_refl _⟩) hS (fun H locs hW hS => ?_)
      refine lv_goto (tgt := 81) hx hb dX9_lays_53 (by decide) ?_
      cases hm
      exact r_vret C0 hr hlocks hW hS dX9_lays_81
    · rw [if_neg h8] at hm
      by_cases h15 : v1 = 2
      · rw [if_pos h15] at hm
        refine z_top (congrArg some h15) ?_
        refine lv_tableIn (tgt := 56) hx hb dX9_lays_1 (by decide) (by decide) rfl (by decide) ?_
        refine lv_aload_n hx hb dX9_lays_56 rfl (lv_at hl 0 rfl) ?_
        replace hm := ob hm; obtain ⟨a16, e17, hm⟩ := hm
        refine r_getA C0 hW fl_X9_7 e17 dX9_lays_57 ?_
        refine lv_aload_n hx hb dX9_lays_60 rfl (lv_at hl 0 rfl) ?_
        replace hm := ob hm; obtain ⟨a18, e19, hm⟩ := hm
        refine r_getA C0 hW fl_X9_22 e19 dX9_lays_61 ?_
        replace hm := ob hm; obtain ⟨σ21, e20, hm⟩ := hm
        refine z_callv (z_runS (As := [.ref a16, .ref a18]) (rest := []) C0 ls_X9_34 (b_X9_copy e20) hW hS rfl hl.1 rfl (Nat.le_of_ble_eq_true rfl) dX9_lays_64 rfl rfl ⟨Nat.le_of_ble_eq_true rfl, Nat.le_of_ble_eq_true rfl⟩ ⟨Nat.le_refl _, Nat.le_refl _⟩) hS (fun H locs hW hS => ?_)
        refine lv_goto (tgt := 81) hx hb dX9_lays_67 (by decide) ?_
        cases hm
        exact r_vret C0 hr hlocks hW hS dX9_lays_81
      · rw [if_neg h15] at hm
        refine lv_tableOut (tgt := 70) hx hb dX9_lays_1 (by have q0 := zne (a := 0) h1 (by decide); have q1 := zne (a := 1) h8 (by decide); have q2 := zne (a := 2) h15 (by decide); omega) (by decide) ?_
        refine lv_aload_n hx hb dX9_lays_70 rfl (lv_at hl 0 rfl) ?_
        replace hm := ob hm; obtain ⟨a22, e23, hm⟩ := hm
        refine r_getA C0 hW fl_X9_7 e23 dX9_lays_71 ?_
        refine lv_aload_n hx hb dX9_lays_74 rfl (lv_at hl 0 rfl) ?_
        replace hm := ob hm; obtain ⟨a24, e25, hm⟩ := hm
        refine r_getA C0 hW fl_X9_25 e25 dX9_lays_75 ?_
        replace hm := ob hm; obtain ⟨σ27, e26, hm⟩ := hm
        refine z_callv (z_runS (As := [.ref a22, .ref a24]) (rest := []) C0 ls_X9_34 (b_X9_copy e26) hW hS rfl hl.1 rfl (Nat.le_of_ble_eq_true rfl) dX9_lays_78 rfl rfl ⟨Nat.le_of_ble_eq_true rfl, Nat.le_of_ble_eq_true rfl⟩ ⟨Nat.le_refl _, Nat.le_refl _⟩) hS (fun H locs hW hS => ?_)
        cases hm
        exact r_vret C0 hr hlocks hW hS dX9_lays_81
set_option maxHeartbeats 4000000 in
set_option maxRecDepth 100000 in
theorem b_X9_records {l : Launch} {D : va_G} {ca : Nat → ClassId} {A : Nat → Prop} {N : Nat} {σ : zS} {v0 : Nat} {σ' : zS} (hm : m_X9_records N σ v0 = some σ') : Met l yX9_records (.code yX9_records cX9_records 1 none :: wsL_law) ({ frames := 2, cells := 0, slots := 0, locals := 43 } : Room) (va_Pc [.ref v0] (zP D ca A σ)) (zQv D ca A σ') 0 0 A := by
  refine zMk (by decide +kernel) (Nat.le_of_ble_eq_true rfl) ?_
  intro p e s m below meth c C0 hr hlocks hin hW ls hl
  have hx := C0.1
  have hb := C0.2.1
  have hS : va_S A s.heap s.heap [] := va_S.rf
  have hl : lv_has ls 1 [(0, .ref v0)] := hl
  unfold m_X9_records at hm
  refine lv_aload_n hx hb dX9_records_0 rfl (lv_at hl 0 rfl) ?_
  replace hm := ob hm; obtain ⟨x1, e2, hm⟩ := hm
  refine r_getI C0 hW fl_X9_38 e2 dX9_records_1 ?_
  refine lv_iconst (v := 4) hx hb dX9_records_4 (by decide) ?_
  replace hm := ob hm; obtain ⟨σ13, e26, hm⟩ := hm
  have J30_3 : ∀ (H : Heap) (locs : List Loc) (ls : Array Slot), zW D ca A σ13 H → va_S A s.heap H locs → lv_has ls 1 [(0, .ref v0)] → W p l e ({ frames := 2, cells := 0, slots := 0, locals := 43 } : Room) s m (List.toArray [.ref v0]) below meth c H locs 0 0 (MQ below (zQv D ca A σ') (List.toArray [.ref v0]) s 0 0 A) (F0 m 30 ls []) := by
    intro H locs ls hW hS hl
    refine lv_aload_n hx hb dX9_records_30 rfl (lv_at hl 0 rfl) ?_
    refine lv_aload_n hx hb dX9_records_31 rfl (lv_at hl 0 rfl) ?_
    replace hm := ob hm; obtain ⟨x14, e15, hm⟩ := hm
    refine r_getI C0 hW fl_X9_42 e15 dX9_records_32 ?_
    refine lv_aload_n hx hb dX9_records_35 rfl (lv_at hl 0 rfl) ?_
    replace hm := ob hm; obtain ⟨x16, e17, hm⟩ := hm
    refine r_getI C0 hW fl_X9_38 e17 dX9_records_36 ?_
    refine lv_iadd hx hb dX9_records_39 ?_
    refine lv_iconst (v := 4) hx hb dX9_records_40 (by decide) ?_
    refine r_irem hx hb dX9_records_41 (by decide) ?_
    replace hm := ob hm; obtain ⟨u18, e19, hm⟩ := hm
    replace hm := ob hm; obtain ⟨σ21, e20, hm⟩ := hm
    refine z_callv (z_runV (As := [.int (irem (x14 + x16) 4)]) (rest := []) (ci := 9) rfl rfl C0 lv_X9_45 (b_X9_lays e20) hW hS e19 rfl hl.1 rfl (Nat.le_of_ble_eq_true rfl) dX9_records_42 rfl rfl ⟨Nat.le_of_ble_eq_true rfl, Nat.le_of_ble_eq_true rfl⟩ ⟨Nat.le_refl _, Nat.le_refl _⟩) hS (fun H locs hW hS => ?_)
    refine lv_aload_n hx hb dX9_records_45 rfl (lv_at hl 0 rfl) ?_
    refine lv_dup hx hb dX9_records_46 rfl ?_
    replace hm := ob hm; obtain ⟨x22, e23, hm⟩ := hm
    refine r_getI C0 hW fl_X9_38 e23 dX9_records_47 ?_
    refine lv_iconst (v := 1) hx hb dX9_records_50 (by decide) ?_
    refine lv_iadd hx hb dX9_records_51 ?_
    replace hm := ob hm; obtain ⟨σ24, e25, hm⟩ := hm
    refine r_putI C0 hW hS fl_X9_38 e25 dX9_records_52 (fun H locs hW hS => ?_)
    cases hm
    exact r_vret C0 hr hlocks hW hS dX9_records_55
  clear hm
  have hm := e26
  clear e26
  refine lv_icmp_ne (tgt := 30) hx hb dX9_records_5 (by decide) (fun h3 => ?_) (fun h3 => ?_)
  · rw [if_neg h3] at hm
    have hq1 := Option.some.inj hm; subst hq1
    exact J30_3 _ _ _ hW hS (lv_sub hl [0] rfl)
  · rw [if_pos h3] at hm
    refine lv_aload_n hx hb dX9_records_8 rfl (lv_at hl 0 rfl) ?_
    refine lv_aload_n hx hb dX9_records_9 rfl (lv_at hl 0 rfl) ?_
    replace hm := ob hm; obtain ⟨x5, e6, hm⟩ := hm
    refine r_getI C0 hW fl_X9_42 e6 dX9_records_10 ?_
    refine lv_iconst (v := 1) hx hb dX9_records_13 (by decide) ?_
    refine lv_iadd hx hb dX9_records_14 ?_
    refine lv_iconst (v := 4) hx hb dX9_records_15 (by decide) ?_
    refine r_irem hx hb dX9_records_16 (by decide) ?_
    replace hm := ob hm; obtain ⟨σ7, e8, hm⟩ := hm
    refine r_putI C0 hW hS fl_X9_42 e8 dX9_records_17 (fun H locs hW hS => ?_)
    refine lv_aload_n hx hb dX9_records_20 rfl (lv_at hl 0 rfl) ?_
    refine lv_dup hx hb dX9_records_21 rfl ?_
    replace hm := ob hm; obtain ⟨x9, e10, hm⟩ := hm
    refine r_getI C0 hW fl_X9_38 e10 dX9_records_22 ?_
    refine lv_iconst (v := 1) hx hb dX9_records_25 (by decide) ?_
    refine lv_isub hx hb dX9_records_26 ?_
    replace hm := ob hm; obtain ⟨σ11, e12, hm⟩ := hm
    refine r_putI C0 hW hS fl_X9_38 e12 dX9_records_27 (fun H locs hW hS => ?_)
    have hq1 := Option.some.inj hm; subst hq1
    exact J30_3 _ _ _ hW hS (lv_sub hl [0] rfl)
