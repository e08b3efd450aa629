set_option maxHeartbeats 4000000 in
set_option maxRecDepth 100000 in
theorem b_J6_bitCount_0f7a4 {l : Launch} {D : va_G} {ca : Nat → ClassId} {A : Nat → Prop} {N : Nat} {σ : zS} {v0 : Int32} {r0 : Int32} (hm : m_J6_bitCount_0f7a4 N σ v0 = some r0) : Met l yJ6_bitCount_0f7a4 (.code yJ6_bitCount_0f7a4 cJ6_bitCount_0f7a4 1 (some .int) :: wsL_law) ({ frames := 0, cells := 0, slots := 0, locals := 0 } : Room) (va_Pc [.int v0] (zP D ca A σ)) (zQi r0 D ca A σ) 0 0 A := by
  refine zMk (by decide +kernel) (Nat.le_of_ble_eq_true rfl) ?_
  intro p e s m below meth c C0 hr hlocks hin hW ls hl
  have hx := C0.1
  have hb := C0.2.1
  have hS : va_S A s.heap s.heap [] := va_S.rf
  have hl : lv_has ls 1 [(0, .int v0)] := hl
  unfold m_J6_bitCount_0f7a4 at hm
  refine lv_iload_n hx hb dJ6_bitCount_0f7a4_0 rfl (lv_at hl 0 rfl) ?_
  refine lv_iload_n hx hb dJ6_bitCount_0f7a4_1 rfl (lv_at hl 0 rfl) ?_
  refine lv_iconst (v := 1) hx hb dJ6_bitCount_0f7a4_2 (by decide) ?_
  refine r_iushr hx hb dJ6_bitCount_0f7a4_3 ?_
  refine lv_ldcw (v := 1431655765) hx hb C0.2.2.2.1 (C0.2.2.2.2.1 _ (zin_12 _ (List.mem_of_getElem? (i := 11) rfl))) dJ6_bitCount_0f7a4_4 ?_
  refine lv_iand hx hb dJ6_bitCount_0f7a4_7 ?_
  refine lv_isub hx hb dJ6_bitCount_0f7a4_8 ?_
  replace hm := ob hm; obtain ⟨x1, e2, hm⟩ := hm
  refine z_top e2 ?_
  refine lv_istore_n (lv' := [(0, .int x1)]) hx hb dJ6_bitCount_0f7a4_9 rfl hl (by decide) rfl (fun ls hl => ?_)
  refine lv_iload_n hx hb dJ6_bitCount_0f7a4_10 rfl (lv_at hl 0 rfl) ?_
  refine lv_ldcw (v := 858993459) hx hb C0.2.2.2.1 (C0.2.2.2.2.1 _ (zin_12 _ (List.mem_of_getElem? (i := 12) rfl))) dJ6_bitCount_0f7a4_11 ?_
  refine lv_iand hx hb dJ6_bitCount_0f7a4_14 ?_
  refine lv_iload_n hx hb dJ6_bitCount_0f7a4_15 rfl (lv_at hl 0 rfl) ?_
  refine lv_iconst (v := 2) hx hb dJ6_bitCount_0f7a4_16 (by decide) ?_
  refine r_iushr hx hb dJ6_bitCount_0f7a4_17 ?_
  refine lv_ldcw (v := 858993459) hx hb C0.2.2.2.1 (C0.2.2.2.2.1 _ (zin_12 _ (List.mem_of_getElem? (i := 12) rfl))) dJ6_bitCount_0f7a4_18 ?_
  refine lv_iand hx hb dJ6_bitCount_0f7a4_21 ?_
  refine lv_iadd hx hb dJ6_bitCount_0f7a4_22 ?_
  replace hm := ob hm; obtain ⟨x3, e4, hm⟩ := hm
  refine z_top e4 ?_
  refine lv_istore_n (lv' := [(0, .int x3)]) hx hb dJ6_bitCount_0f7a4_23 rfl hl (by decide) rfl (fun ls hl => ?_)
  refine lv_iload_n hx hb dJ6_bitCount_0f7a4_24 rfl (lv_at hl 0 rfl) ?_
  refine lv_iload_n hx hb dJ6_bitCount_0f7a4_25 rfl (lv_at hl 0 rfl) ?_
  refine lv_iconst (v := 4) hx hb dJ6_bitCount_0f7a4_26 (by decide) ?_
  refine r_iushr hx hb dJ6_bitCount_0f7a4_27 ?_
  refine lv_iadd hx hb dJ6_bitCount_0f7a4_28 ?_
  refine lv_ldcw (v := 252645135) hx hb C0.2.2.2.1 (C0.2.2.2.2.1 _ (zin_12 _ (List.mem_of_getElem? (i := 13) rfl))) dJ6_bitCount_0f7a4_29 ?_
  refine lv_iand hx hb dJ6_bitCount_0f7a4_32 ?_
  replace hm := ob hm; obtain ⟨x5, e6, hm⟩ := hm
  refine z_top e6 ?_
  refine lv_istore_n (lv' := [(0, .int x5)]) hx hb dJ6_bitCount_0f7a4_33 rfl hl (by decide) rfl (fun ls hl => ?_)
  refine lv_iload_n hx hb dJ6_bitCount_0f7a4_34 rfl (lv_at hl 0 rfl) ?_
  refine lv_iload_n hx hb dJ6_bitCount_0f7a4_35 rfl (lv_at hl 0 rfl) ?_
  refine lv_bipush (v := 8) hx hb dJ6_bitCount_0f7a4_36 (by decide) ?_
  refine r_iushr hx hb dJ6_bitCount_0f7a4_38 ?_
  refine lv_iadd hx hb dJ6_bitCount_0f7a4_39 ?_
  replace hm := ob hm; obtain ⟨x7, e8, hm⟩ := hm
  refine z_top e8 ?_
  refine lv_istore_n (lv' := [(0, .int x7)]) hx hb dJ6_bitCount_0f7a4_40 rfl hl (by decide) rfl (fun ls hl => ?_)
  refine lv_iload_n hx hb dJ6_bitCount_0f7a4_41 rfl (lv_at hl 0 rfl) ?_
  refine lv_iload_n hx hb dJ6_bitCount_0f7a4_42 rfl (lv_at hl 0 rfl) ?_
  refine lv_bipush (v := 16) hx hb dJ6_bitCount_0f7a4_43 (by decide) ?_
  refine r_iushr hx hb dJ6_bitCount_0f7a4_45 ?_
  refine lv_iadd hx hb dJ6_bitCount_0f7a4_46 ?_
  replace hm := ob hm; obtain ⟨x9, e10, hm⟩ := hm
  refine z_top e10 ?_
  refine lv_istore_n (lv' := [(0, .int x9)]) hx hb dJ6_bitCount_0f7a4_47 rfl hl (by decide) rfl (fun ls hl => ?_)
  refine lv_iload_n hx hb dJ6_bitCount_0f7a4_48 rfl (lv_at hl 0 rfl) ?_
  refine lv_bipush (v := 63) hx hb dJ6_bitCount_0f7a4_49 (by decide) ?_
  refine lv_iand hx hb dJ6_bitCount_0f7a4_51 ?_
  cases hm
  exact r_iret C0 hr hlocks hW hS dJ6_bitCount_0f7a4_52
set_option maxHeartbeats 4000000 in
set_option maxRecDepth 100000 in
theorem w_J7_fill_53178_L5 {p : Program} {l : Launch} {e : Env} {s : State} {m : MethodId} {args : Array Value} {below : List Frame} {meth : Method} {c : Code} {D : va_G} {ca : Nat → ClassId} {A : Nat → Prop} {Q : State → Prop} (N : Nat) : ∀ (n : Nat) {σ : zS} {v0 : Nat} {v1 : Int32} {v2 : Int32} {v3 : Int32} {σ' : zS} {H : Heap} {locs : List Loc} {ls : Array Slot}, m_J7_fill_53178_L5 N n σ v0 v1 v2 v3 = some σ' → zC p s m args c RJ7 cJ7_fill_53178 4 D ca A → zW D ca A σ H → va_S A s.heap H locs → lv_has ls 4 [(0, .ref v0), (1, .int v1), (2, .int v2), (3, .int v3)] → (∀ (H : Heap) (locs : List Loc) (ls : Array Slot), zW D ca A σ' H → va_S A s.heap H locs → lv_has ls 4 [] → W p l e ({ frames := 0, cells := 0, slots := 0, locals := 0 } : Room) s m args below meth c H locs 0 0 Q (F0 m 20 ls [])) → W p l e ({ frames := 0, cells := 0, slots := 0, locals := 0 } : Room) s m args below meth c H locs 0 0 Q (F0 m 5 ls []) := by
  intro n
  induction n with
  | zero =>
    intro σ v0 v1 v2 v3 σ' H locs ls hm C0 hW hS hl kk
    rw [m_J7_fill_53178_L5] at hm
    cases hm
  | succ n ih =>
    intro σ v0 v1 v2 v3 σ' H locs ls hm C0 hW hS hl kk
    rw [m_J7_fill_53178_L5] at hm
    have hx := C0.1
    have hb := C0.2.1
    refine lv_iload_n hx hb dJ7_fill_53178_5 rfl (lv_at hl 2 rfl) ?_
    refine lv_iload_n hx hb dJ7_fill_53178_6 rfl (lv_at hl 3 rfl) ?_
    refine lv_icmp_ge (tgt := 20) hx hb dJ7_fill_53178_7 (by decide) (fun h3 => ?_) (fun h3 => ?_)
    · rw [if_pos h3] at hm
      cases hm
      exact kk _ _ _ hW hS (lv_sub hl [] rfl)
    · rw [if_neg h3] at hm
      refine lv_aload_n hx hb dJ7_fill_53178_10 rfl (lv_at hl 0 rfl) ?_
      refine lv_iload_n hx hb dJ7_fill_53178_11 rfl (lv_at hl 2 rfl) ?_
      refine lv_iload_n hx hb dJ7_fill_53178_12 rfl (lv_at hl 1 rfl) ?_
      replace hm := ob hm; obtain ⟨σ4, e5, hm⟩ := hm
      refine r_uI C0 hW hS e5 dJ7_fill_53178_13 (fun H locs hW hS => ?_)
      replace hm := ob hm; obtain ⟨x6, e7, hm⟩ := hm
      refine lv_iinc (v := x6) (lv' := [(2, .int x6), (0, .ref v0), (1, .int v1), (3, .int v3)]) hx hb dJ7_fill_53178_14 hl (k := 2) rfl (Option.some.inj e7) (by decide) rfl (fun ls hl => ?_)
      refine lv_goto (tgt := 5) hx hb dJ7_fill_53178_17 (by decide) ?_
      exact ih hm C0 hW hS (lv_sub hl [1, 2, 0, 3] rfl) kk
set_option maxHeartbeats 4000000 in
set_option maxRecDepth 100000 in
theorem b_J7_fill_53178 {l : Launch} {D : va_G} {ca : Nat → ClassId} {A : Nat → Prop} {N : Nat} {σ : zS} {v0 : Nat} {v1 : Int32} {σ' : zS} (hm : m_J7_fill_53178 N σ v0 v1 = some σ') : Met l yJ7_fill_53178 (.code yJ7_fill_53178 cJ7_fill_53178 4 none :: wsL_law) ({ frames := 0, cells := 0, slots := 0, locals := 0 } : Room) (va_Pc [.ref v0, .int v1] (zP D ca A σ)) (zQv D ca A σ') 0 0 A := by
  refine zMk (by decide +kernel) (Nat.le_of_ble_eq_true rfl) ?_
  intro p e s m below meth c C0 hr hlocks hin hW ls hl
  have hx := C0.1
  have hb := C0.2.1
  have hS : va_S A s.heap s.heap [] := va_S.rf
  have hl : lv_has ls 4 [(0, .ref v0), (1, .int v1)] := hl
  unfold m_J7_fill_53178 at hm
  refine lv_iconst (v := 0) hx hb dJ7_fill_53178_0 (by decide) ?_
  refine lv_istore_n (lv' := [(2, .int 0), (0, .ref v0), (1, .int v1)]) hx hb dJ7_fill_53178_1 rfl hl (by decide) rfl (fun ls hl => ?_)
  refine lv_aload_n hx hb dJ7_fill_53178_2 rfl (lv_at hl 1 rfl) ?_
  replace hm := ob hm; obtain ⟨x1, e2, hm⟩ := hm
  refine r_aL (kd := 1) rfl C0 hW e2 dJ7_fill_53178_3 ?_
  refine lv_istore_n (lv' := [(3, .int x1), (2, .int 0), (0, .ref v0), (1, .int v1)]) hx hb dJ7_fill_53178_4 rfl hl (by decide) rfl (fun ls hl => ?_)
  replace hm := ob hm; obtain ⟨σ8, e9, hm⟩ := hm
  refine w_J7_fill_53178_L5 N N e9 C0 hW hS (lv_sub hl [2, 3, 1, 0] rfl) (fun H locs ls hW hS hl => ?_)
  cases hm
  exact r_vret C0 hr hlocks hW hS dJ7_fill_53178_20
set_option maxHeartbeats 4000000 in
set_option maxRecDepth 100000 in
theorem b_Jxf58ca_isNaN_12338 {l : Launch} {D : va_G} {ca : Nat → ClassId} {A : Nat → Prop} {N : Nat} {σ : zS} {v0 : UInt32} {r0 : Int32} (hm : m_Jxf58ca_isNaN_12338 N σ v0 = some r0) : Met l yJxf58ca_isNaN_12338 (.code yJxf58ca_isNaN_12338 cJxf58ca_isNaN_12338 1 (some .boolean) :: wsL_law) ({ frames := 0, cells := 0, slots := 0, locals := 0 } : Room) (va_Pc [.float v0] (zP D ca A σ)) (zQi r0 D ca A σ) 0 0 A := by
  refine zMkF (by decide +kernel) (Nat.le_of_ble_eq_true rfl) ?_
  intro p e s m below meth c C0 hr hlocks hin hW ls hl
  have hx := C0.1
  have hb := C0.2.1
  have hS : va_S A s.heap s.heap [] := va_S.rf
  have hl : lv_has ls 1 [(0, .float v0)] := hl
  unfold m_Jxf58ca_isNaN_12338 at hm
  refine lv_fload_n hx hb dJxf58ca_isNaN_12338_0 rfl (lv_at hl 0 rfl) ?_
  refine lv_fload_n hx hb dJxf58ca_isNaN_12338_1 rfl (lv_at hl 0 rfl) ?_
  refine lv_fcmp hx hb dJxf58ca_isNaN_12338_2 ?_
  refine lv_if_eq (tgt := 10) hx hb dJxf58ca_isNaN_12338_3 (by decide) (fun h1 => ?_) (fun h1 => ?_)
  · rw [if_pos h1] at hm
    refine lv_iconst (v := 0) hx hb dJxf58ca_isNaN_12338_10 (by decide) ?_
    cases hm
    exact r_zret C0 hr rfl hlocks hW hS dJxf58ca_isNaN_12338_11
  · rw [if_neg h1] at hm
    refine lv_iconst (v := 1) hx hb dJxf58ca_isNaN_12338_6 (by decide) ?_
    refine lv_goto (tgt := 11) hx hb dJxf58ca_isNaN_12338_7 (by decide) ?_
    cases hm
    exact r_zret C0 hr rfl hlocks hW hS dJxf58ca_isNaN_12338_11
set_option maxHeartbeats 4000000 in
set_option maxRecDepth 100000 in
theorem b_Jxf58ca_floatToIntBits_5c35a {l : Launch} {D : va_G} {ca : Nat → ClassId} {A : Nat → Prop} {N : Nat} {σ : zS} {v0 : UInt32} {r0 : Int32} (hm : m_Jxf58ca_floatToIntBits_5c35a N σ v0 = some r0) : Met l yJxf58ca_floatToIntBits_5c35a (.code yJxf58ca_floatToIntBits_5c35a cJxf58ca_floatToIntBits_5c35a 1 (some .int) :: wsL_law) ({ frames := 1, cells := 0, slots := 0, locals := 26 } : Room) (va_Pc [.float v0] (zP D ca A σ)) (zQi r0 D ca A σ) 0 0 A := by
  refine zMkF (by decide +kernel) (Nat.le_of_ble_eq_true rfl) ?_
  intro p e s m below meth c C0 hr hlocks hin hW ls hl
  have hx := C0.1
  have hb := C0.2.1
  have hS : va_S A s.heap s.heap [] := va_S.rf
  have hl : lv_has ls 1 [(0, .float v0)] := hl
  unfold m_Jxf58ca_floatToIntBits_5c35a at hm
  refine lv_fload_n hx hb dJxf58ca_floatToIntBits_5c35a_0 rfl (lv_at hl 0 rfl) ?_
  replace hm := ob hm; obtain ⟨x2, e1, hm⟩ := hm
  refine z_calli (z_runS (As := [.float v0]) (rest := []) C0 ls_Jxf58ca_59 (b_Jxf58ca_isNaN_12338 e1) hW hS rfl hl.1 rfl (Nat.le_of_ble_eq_true rfl) dJxf58ca_floatToIntBits_5c35a_1 rfl rfl ⟨Nat.le_of_ble_eq_true rfl, Nat.le_of_ble_eq_true rfl⟩ ⟨Nat.le_refl _, Nat.le_refl _⟩) hS (fun H locs hW hS => ?_)
  refine lv_if_ne (tgt := 12) hx hb dJxf58ca_floatToIntBits_5c35a_4 (by decide) (fun h3 => ?_) (fun h3 => ?_)
  · rw [if_neg h3] at hm
    refine lv_ldc (v := 2143289344) hx hb C0.2.2.2.1 (C0.2.2.2.2.1 _ (zin_28 _ (List.mem_of_getElem? (i := 14) rfl))) dJxf58ca_floatToIntBits_5c35a_12 ?_
    cases hm
    exact r_iret C0 hr hlocks hW hS dJxf58ca_floatToIntBits_5c35a_14
  · rw [if_pos h3] at hm
    refine lv_fload_n hx hb dJxf58ca_floatToIntBits_5c35a_7 rfl (lv_at hl 0 rfl) ?_
    refine vn_f2i hx hb (C0.2.2.1.trans hl.1.symm) C0.2.2.2.1 (C0.2.2.2.2.1 _ lr_Jxf58ca_74.1) (C0.2.2.2.2.1 _ lr_Jxf58ca_74.2.1) (C0.2.2.2.2.1 _ lr_Jxf58ca_74.2.2.1) (C0.2.2.2.2.1 _ lr_Jxf58ca_74.2.2.2) (Nat.le_of_ble_eq_true rfl) (Nat.le_of_ble_eq_true rfl) dJxf58ca_floatToIntBits_5c35a_8 ?_
    cases hm
    exact r_iret C0 hr hlocks hW hS dJxf58ca_floatToIntBits_5c35a_11
set_option maxHeartbeats 4000000 in
set_option maxRecDepth 100000 in
theorem b_X0_numberAt {l : Launch} {D : va_G} {ca : Nat → ClassId} {A : Nat → Prop} {N : Nat} {σ : zS} {v0 : Nat} {v1 : Int32} {r0 : Int32} (hm : m_X0_numberAt N σ v0 v1 = some r0) : Met l yX0_numberAt (.code yX0_numberAt cX0_numberAt 2 (some .int) :: wsL_law) ({ frames := 0, cells := 0, slots := 0, locals := 0 } : Room) (va_Pc [.ref v0, .int v1] (zP D ca A σ)) (zQi r0 D ca A σ) 0 0 A := by
  refine zMk (by decide +kernel) (Nat.le_of_ble_eq_true rfl) ?_
  intro p e s m below meth c C0 hr hlocks hin hW ls hl
  have hx := C0.1
  have hb := C0.2.1
  have hS : va_S A s.heap s.heap [] := va_S.rf
  have hl : lv_has ls 2 [(0, .ref v0), (1, .int v1)] := hl
  unfold m_X0_numberAt at hm
  refine lv_iload_n hx hb dX0_numberAt_0 rfl (lv_at hl 1 rfl) ?_
  refine lv_if_lt (tgt := 22) hx hb dX0_numberAt_1 (by decide) (fun h1 => ?_) (fun h1 => ?_)
  · rw [if_pos h1] at hm
    refine lv_iconst (v := 0) hx hb dX0_numberAt_22 (by decide) ?_
    cases hm
    exact r_iret C0 hr hlocks hW hS dX0_numberAt_23
  · rw [if_neg h1] at hm
    refine lv_iload_n hx hb dX0_numberAt_4 rfl (lv_at hl 1 rfl) ?_
    refine lv_aload_n hx hb dX0_numberAt_5 rfl (lv_at hl 0 rfl) ?_
    replace hm := ob hm; obtain ⟨a2, e3, hm⟩ := hm
    refine r_getA C0 hW fl_X0_7 e3 dX0_numberAt_6 ?_
    replace hm := ob hm; obtain ⟨x4, e5, hm⟩ := hm
    refine r_aL (kd := 1) rfl C0 hW e5 dX0_numberAt_9 ?_
    refine lv_icmp_ge (tgt := 22) hx hb dX0_numberAt_10 (by decide) (fun h6 => ?_) (fun h6 => ?_)
    · rw [if_pos h6] at hm
      refine lv_iconst (v := 0) hx hb dX0_numberAt_22 (by decide) ?_
      cases hm
      exact r_iret C0 hr hlocks hW hS dX0_numberAt_23
    · rw [if_neg h6] at hm
      refine lv_aload_n hx hb dX0_numberAt_13 rfl (lv_at hl 0 rfl) ?_
      replace hm := ob hm; obtain ⟨a7, e8, hm⟩ := hm
      refine r_getA C0 hW fl_X0_7 e8 dX0_numberAt_14 ?_
      refine lv_iload_n hx hb dX0_numberAt_17 rfl (lv_at hl 1 rfl) ?_
      replace hm := ob hm; obtain ⟨x9, e10, hm⟩ := hm
      refine r_aI C0 hW e10 dX0_numberAt_18 ?_
      refine lv_goto (tgt := 23) hx hb dX0_numberAt_19 (by decide) ?_
      cases hm
      exact r_iret C0 hr hlocks hW hS dX0_numberAt_23
set_option maxHeartbeats 4000000 in
set_option maxRecDepth 100000 in
theorem b_X0_numbersWanted {l : Launch} {D : va_G} {ca : Nat → ClassId} {A : Nat → Prop} {N : Nat} {σ : zS} {v0 : Nat} {r0 : Int32} (hm : m_X0_numbersWanted N σ v0 = some r0) : Met l yX0_numbersWanted (.code yX0_numbersWanted cX0_numbersWanted 1 (some .int) :: wsL_law) ({ frames := 0, cells := 0, slots := 0, locals := 0 } : Room) (va_Pc [.ref v0] (zP D ca A σ)) (zQi r0 D ca A σ) 0 0 A := by
  refine zMk (by decide +kernel) (Nat.le_of_ble_eq_true rfl) ?_
  intro p e s m below meth c C0 hr hlocks hin hW ls hl
  have hx := C0.1
  have hb := C0.2.1
  have hS : va_S A s.heap s.heap [] := va_S.rf
  have hl : lv_has ls 1 [(0, .ref v0)] := hl
  unfold m_X0_numbersWanted at hm
  refine lv_aload_n hx hb dX0_numbersWanted_0 rfl (lv_at hl 0 rfl) ?_
  replace hm := ob hm; obtain ⟨x1, e2, hm⟩ := hm
  refine r_getI C0 hW fl_X0_13 e2 dX0_numbersWanted_1 ?_
  by_cases h3 : x1 = 97
  · rw [if_pos h3] at hm
    refine z_top (congrArg some h3) ?_
    refine lv_lookup (tgt := 58) hx hb dX0_numbersWanted_4 (by decide) rfl (by decide) ?_
    refine lv_iconst (v := 2) hx hb dX0_numbersWanted_58 (by decide) ?_
    cases hm
    exact r_iret C0 hr hlocks hW hS dX0_numbersWanted_59
  · rw [if_neg h3] at hm
    by_cases h4 : x1 = 107
    · rw [if_pos h4] at hm
      refine z_top (congrArg some h4) ?_
      refine lv_lookup (tgt := 56) hx hb dX0_numbersWanted_4 (by decide) rfl (by decide) ?_
      refine lv_iconst (v := 2) hx hb dX0_numbersWanted_56 (by decide) ?_
      cases hm
      exact r_iret C0 hr hlocks hW hS dX0_numbersWanted_57
    · rw [if_neg h4] at hm
      by_cases h5 : x1 = 109
      · rw [if_pos h5] at hm
        refine z_top (congrArg some h5) ?_
        refine lv_lookup (tgt := 62) hx hb dX0_numbersWanted_4 (by decide) rfl (by decide) ?_
        refine lv_iconst (v := 2) hx hb dX0_numbersWanted_62 (by decide) ?_
        cases hm
        exact r_iret C0 hr hlocks hW hS dX0_numbersWanted_63
      · rw [if_neg h5] at hm
        by_cases h6 : x1 = 115
        · rw [if_pos h6] at hm
          refine z_top (congrArg some h6) ?_
          refine lv_lookup (tgt := 60) hx hb dX0_numbersWanted_4 (by decide) rfl (by decide) ?_
          refine lv_iconst (v := 4) hx hb dX0_numbersWanted_60 (by decide) ?_
          cases hm
          exact r_iret C0 hr hlocks hW hS dX0_numbersWanted_61
        · rw [if_neg h6] at hm
          by_cases h7 : x1 = 122
          · rw [if_pos h7] at hm
            refine z_top (congrArg some h7) ?_
            refine lv_lookup (tgt := 64) hx hb dX0_numbersWanted_4 (by decide) rfl (by decide) ?_
            refine lv_iconst (v := 1) hx hb dX0_numbersWanted_64 (by decide) ?_
            cases hm
            exact r_iret C0 hr hlocks hW hS dX0_numbersWanted_65
          · rw [if_neg h7] at hm
            refine lv_lookup (tgt := 66) (off := 62) hx hb dX0_numbersWanted_4 (by decide) (show Op.lookupswitch.offset [(97, 54), (107, 52), (109, 58), (115, 56), (122, 60)] 62 _ = 62 from (lv_osw h3 (by decide)).trans ((lv_osw h4 (by decide)).trans ((lv_osw h5 (by decide)).trans ((lv_osw h6 (by decide)).trans ((lv_osw h7 (by decide)).trans (rfl)))))) (by decide) ?_
            refine lv_iconst (v := 0) hx hb dX0_numbersWanted_66 (by decide) ?_
            cases hm
            exact r_iret C0 hr hlocks hW hS dX0_numbersWanted_67
set_option maxHeartbeats 4000000 in
set_option maxRecDepth 100000 in
theorem b_X0_put {l : Launch} {D : va_G} {ca : Nat → ClassId} {A : Nat → Prop} {N : Nat} {σ : zS} {v0 : Nat} {v1 : Int32} {v2 : Int32} {v3 : Int32} {σ' : zS} (hm : m_X0_put N σ v0 v1 v2 v3 = some σ') : Met l yX0_put (.code yX0_put cX0_put 4 none :: wsL_law) ({ frames := 0, cells := 0, slots := 0, locals := 0 } : Room) (va_Pc [.ref v0, .int v1, .int v2, .int v3] (zP D ca A σ)) (zQv D ca A σ') 0 0 A := by
  refine zMk (by decide +kernel) (Nat.le_of_ble_eq_true rfl) ?_
  intro p e s m below meth c C0 hr hlocks hin hW ls hl
  have hx := C0.1
  have hb := C0.2.1
  have hS : va_S A s.heap s.heap [] := va_S.rf
  have hl : lv_has ls 4 [(0, .ref v0), (1, .int v1), (2, .int v2), (3, .int v3)] := hl
  unfold m_X0_put at hm
  refine lv_aload_n hx hb dX0_put_0 rfl (lv_at hl 0 rfl) ?_
  refine lv_iload_n hx hb dX0_put_1 rfl (lv_at hl 1 rfl) ?_
  replace hm := ob hm; obtain ⟨x3, e4, hm⟩ := hm
  replace hm := ob hm; obtain ⟨σ1, e2, hm⟩ := hm
  refine r_putC C0 hW hS fl_X0_13 e4 e2 dX0_put_2 (fun H locs hW hS => ?_)
  refine lv_aload_n hx hb dX0_put_5 rfl (lv_at hl 0 rfl) ?_
  replace hm := ob hm; obtain ⟨a5, e6, hm⟩ := hm
  refine r_getA C0 hW fl_X0_7 e6 dX0_put_6 ?_
  refine lv_iconst (v := 0) hx hb dX0_put_9 (by decide) ?_
  refine lv_iload_n hx hb dX0_put_10 rfl (lv_at hl 2 rfl) ?_
  replace hm := ob hm; obtain ⟨σ7, e8, hm⟩ := hm
  refine r_uI C0 hW hS e8 dX0_put_11 (fun H locs hW hS => ?_)
  refine lv_aload_n hx hb dX0_put_12 rfl (lv_at hl 0 rfl) ?_
  replace hm := ob hm; obtain ⟨a9, e10, hm⟩ := hm
  refine r_getA C0 hW fl_X0_7 e10 dX0_put_13 ?_
  refine lv_iconst (v := 1) hx hb dX0_put_16 (by decide) ?_
  refine lv_iload_n hx hb dX0_put_17 rfl (lv_at hl 3 rfl) ?_
  replace hm := ob hm; obtain ⟨σ11, e12, hm⟩ := hm
  refine r_uI C0 hW hS e12 dX0_put_18 (fun H locs hW hS => ?_)
  cases hm
  exact r_vret C0 hr hlocks hW hS dX0_put_19
set_option maxHeartbeats 4000000 in
set_option maxRecDepth 100000 in
theorem b_X0_putMore {l : Launch} {D : va_G} {ca : Nat → ClassId} {A : Nat → Prop} {N : Nat} {σ : zS} {v0 : Nat} {v1 : Int32} {v2 : Int32} {σ' : zS} (hm : m_X0_putMore N σ v0 v1 v2 = some σ') : Met l yX0_putMore (.code yX0_putMore cX0_putMore 3 none :: wsL_law) ({ frames := 0, cells := 0, slots := 0, locals := 0 } : Room) (va_Pc [.ref v0, .int v1, .int v2] (zP D ca A σ)) (zQv D ca A σ') 0 0 A := by
  refine zMk (by decide +kernel) (Nat.le_of_ble_eq_true rfl) ?_
  intro p e s m below meth c C0 hr hlocks hin hW ls hl
  have hx := C0.1
  have hb := C0.2.1
  have hS : va_S A s.heap s.heap [] := va_S.rf
  have hl : lv_has ls 3 [(0, .ref v0), (1, .int v1), (2, .int v2)] := hl
  unfold m_X0_putMore at hm
  refine lv_aload_n hx hb dX0_putMore_0 rfl (lv_at hl 0 rfl) ?_
  replace hm := ob hm; obtain ⟨a1, e2, hm⟩ := hm
  refine r_getA C0 hW fl_X0_7 e2 dX0_putMore_1 ?_
  refine lv_iconst (v := 2) hx hb dX0_putMore_4 (by decide) ?_
  refine lv_iload_n hx hb dX0_putMore_5 rfl (lv_at hl 1 rfl) ?_
  replace hm := ob hm; obtain ⟨σ3, e4, hm⟩ := hm
  refine r_uI C0 hW hS e4 dX0_putMore_6 (fun H locs hW hS => ?_)
  refine lv_aload_n hx hb dX0_putMore_7 rfl (lv_at hl 0 rfl) ?_
  replace hm := ob hm; obtain ⟨a5, e6, hm⟩ := hm
  refine r_getA C0 hW fl_X0_7 e6 dX0_putMore_8 ?_
  refine lv_iconst (v := 3) hx hb dX0_putMore_11 (by decide) ?_
  refine lv_iload_n hx hb dX0_putMore_12 rfl (lv_at hl 2 rfl) ?_
  replace hm := ob hm; obtain ⟨σ7, e8, hm⟩ := hm
  refine r_uI C0 hW hS e8 dX0_putMore_13 (fun H locs hW hS => ?_)
  cases hm
  exact r_vret C0 hr hlocks hW hS dX0_putMore_14
set_option maxHeartbeats 4000000 in
set_option maxRecDepth 100000 in
theorem b_X6_signAt {l : Launch} {D : va_G} {ca : Nat → ClassId} {A : Nat → Prop} {N : Nat} {σ : zS} {v0 : Nat} {v1 : Int32} {r0 : Int32} (hm : m_X6_signAt N σ v0 v1 = some r0) : Met l yX6_signAt (.code yX6_signAt cX6_signAt 2 (some .char) :: wsL_law) ({ frames := 0, cells := 0, slots := 0, locals := 0 } : Room) (va_Pc [.ref v0, .int v1] (zP D ca A σ)) (zQi r0 D ca A σ) 0 0 A := by
  refine zMk (by decide +kernel) (Nat.le_of_ble_eq_true rfl) ?_
  intro p e s m below meth c C0 hr hlocks hin hW ls hl
  have hx := C0.1
  have hb := C0.2.1
  have hS : va_S A s.heap s.heap [] := va_S.rf
  have hl : lv_has ls 2 [(0, .ref v0), (1, .int v1)] := hl
  unfold m_X6_signAt at hm
  refine lv_iload_n hx hb dX6_signAt_0 rfl (lv_at hl 1 rfl) ?_
  refine lv_if_lt (tgt := 27) hx hb dX6_signAt_1 (by decide) (fun h1 => ?_) (fun h1 => ?_)
  · rw [if_pos h1] at hm
    refine lv_iconst (v := 0) hx hb dX6_signAt_27 (by decide) ?_
    cases hm
    exact r_zret C0 hr rfl hlocks hW hS dX6_signAt_28
  · rw [if_neg h1] at hm
    refine lv_iload_n hx hb dX6_signAt_4 rfl (lv_at hl 1 rfl) ?_
    refine lv_aload_n hx hb dX6_signAt_5 rfl (lv_at hl 0 rfl) ?_
    replace hm := ob hm; obtain ⟨x2, e3, hm⟩ := hm
    refine r_getI C0 hW fl_X6_15 e3 dX6_signAt_6 ?_
    refine lv_icmp_ge (tgt := 27) hx hb dX6_signAt_9 (by decide) (fun h4 => ?_) (fun h4 => ?_)
    · rw [if_pos h4] at hm
      refine lv_iconst (v := 0) hx hb dX6_signAt_27 (by decide) ?_
      cases hm
      exact r_zret C0 hr rfl hlocks hW hS dX6_signAt_28
    · rw [if_neg h4] at hm
      refine lv_iload_n hx hb dX6_signAt_12 rfl (lv_at hl 1 rfl) ?_
      refine lv_bipush (v := 80) hx hb dX6_signAt_13 (by decide) ?_
      refine lv_icmp_ge (tgt := 27) hx hb dX6_signAt_15 (by decide) (fun h5 => ?_) (fun h5 => ?_)
      · rw [if_pos h5] at hm
        refine lv_iconst (v := 0) hx hb dX6_signAt_27 (by decide) ?_
        cases hm
        exact r_zret C0 hr rfl hlocks hW hS dX6_signAt_28
      · rw [if_neg h5] at hm
        refine lv_aload_n hx hb dX6_signAt_18 rfl (lv_at hl 0 rfl) ?_
        replace hm := ob hm; obtain ⟨a6, e7, hm⟩ := hm
        refine r_getA C0 hW fl_X6_9 e7 dX6_signAt_19 ?_
        refine lv_iload_n hx hb dX6_signAt_22 rfl (lv_at hl 1 rfl) ?_
        replace hm := ob hm; obtain ⟨x8, e9, hm⟩ := hm
        refine r_aC C0 hW e9 dX6_signAt_23 ?_
        refine lv_goto (tgt := 28) hx hb dX6_signAt_24 (by decide) ?_
        replace hm := ob hm; obtain ⟨x10, e11, hm⟩ := hm
        obtain ⟨hq, hq2⟩ := nar_ch e11
        rw [hq]
        cases hm
        exact r_zret C0 hr hq2 hlocks hW hS dX6_signAt_28
set_option maxHeartbeats 4000000 in
set_option maxRecDepth 100000 in
theorem w_X6_digitsAt_L2 {p : Program} {l : Launch} {e : Env} {s : State} {m : MethodId} {args : Array Value} {below : List Frame} {meth : Method} {c : Code} {D : va_G} {ca : Nat → ClassId} {A : Nat → Prop} {Q : State → Prop} (N : Nat) : ∀ (n : Nat) {σ : zS} {v0 : Nat} {v1 : Int32} {v2 : Int32} {y2 : Int32} {H : Heap} {locs : List Loc} {ls : Array Slot}, m_X6_digitsAt_L2 N n σ v0 v1 v2 = some y2 → zC p s m args c RX6 cX6_digitsAt 3 D ca A → zW D ca A σ H → va_S A s.heap H locs → lv_has ls 3 [(0, .ref v0), (1, .int v1), (2, .int v2)] → (∀ (H : Heap) (locs : List Loc) (ls : Array Slot), zW D ca A σ H → va_S A s.heap H locs → lv_has ls 3 [(2, .int y2)] → W p l e ({ frames := 1, cells := 0, slots := 0, locals := 21 } : Room) s m args below meth c H locs 0 0 Q (F0 m 37 ls [])) → W p l e ({ frames := 1, cells := 0, slots := 0, locals := 21 } : Room) s m args below meth c H locs 0 0 Q (F0 m 2 ls []) := by
  intro n
  induction n with
  | zero =>
    intro σ v0 v1 v2 y2 H locs ls hm C0 hW hS hl kk
    rw [m_X6_digitsAt_L2] at hm
    cases hm
  | succ n ih =>
    intro σ v0 v1 v2 y2 H locs ls hm C0 hW hS hl kk
    rw [m_X6_digitsAt_L2] at hm
    have hx := C0.1
    have hb := C0.2.1
    refine lv_iload_n hx hb dX6_digitsAt_2 rfl (lv_at hl 2 rfl) ?_
    refine lv_iconst (v := 3) hx hb dX6_digitsAt_3 (by decide) ?_
    refine lv_icmp_ge (tgt := 37) hx hb dX6_digitsAt_4 (by decide) (fun h1 => ?_) (fun h1 => ?_)
    · rw [if_pos h1] at hm
      cases hm
      exact kk _ _ _ hW hS (lv_sub hl [2] rfl)
    · rw [if_neg h1] at hm
      refine lv_aload_n hx hb dX6_digitsAt_7 rfl (lv_at hl 0 rfl) ?_
      refine lv_iload_n hx hb dX6_digitsAt_8 rfl (lv_at hl 1 rfl) ?_
      refine lv_iload_n hx hb dX6_digitsAt_9 rfl (lv_at hl 2 rfl) ?_
      refine lv_iadd hx hb dX6_digitsAt_10 ?_
      replace hm := ob hm; obtain ⟨u2, e3, hm⟩ := hm
      replace hm := ob hm; obtain ⟨x5, e4, hm⟩ := hm
      refine z_calli (z_runV (As := [.int (v1 + v2)]) (rest := []) (ci := 6) rfl rfl C0 lv_X6_19 (b_X6_signAt e4) hW hS e3 rfl hl.1 rfl (Nat.le_of_ble_eq_true rfl) dX6_digitsAt_11 rfl rfl ⟨Nat.le_of_ble_eq_true rfl, Nat.le_of_ble_eq_true rfl⟩ ⟨Nat.le_refl _, Nat.le_refl _⟩) hS (fun H locs hW hS => ?_)
      refine lv_bipush (v := 48) hx hb dX6_digitsAt_14 (by decide) ?_
      refine lv_icmp_lt (tgt := 37) hx hb dX6_digitsAt_16 (by decide) (fun h6 => ?_) (fun h6 => ?_)
      · rw [if_pos h6] at hm
        cases hm
        exact kk _ _ _ hW hS (lv_sub hl [2] rfl)
      · rw [if_neg h6] at hm
        refine lv_aload_n hx hb dX6_digitsAt_19 rfl (lv_at hl 0 rfl) ?_
        refine lv_iload_n hx hb dX6_digitsAt_20 rfl (lv_at hl 1 rfl) ?_
        refine lv_iload_n hx hb dX6_digitsAt_21 rfl (lv_at hl 2 rfl) ?_
        refine lv_iadd hx hb dX6_digitsAt_22 ?_
        replace hm := ob hm; obtain ⟨u7, e8, hm⟩ := hm
        replace hm := ob hm; obtain ⟨x10, e9, hm⟩ := hm
        refine z_calli (z_runV (As := [.int (v1 + v2)]) (rest := []) (ci := 6) rfl rfl C0 lv_X6_19 (b_X6_signAt e9) hW hS e8 rfl hl.1 rfl (Nat.le_of_ble_eq_true rfl) dX6_digitsAt_23 rfl rfl ⟨Nat.le_of_ble_eq_true rfl, Nat.le_of_ble_eq_true rfl⟩ ⟨Nat.le_refl _, Nat.le_refl _⟩) hS (fun H locs hW hS => ?_)
        refine lv_bipush (v := 57) hx hb dX6_digitsAt_26 (by decide) ?_
        refine lv_icmp_gt (tgt := 37) hx hb dX6_digitsAt_28 (by decide) (fun h11 => ?_) (fun h11 => ?_)
        · rw [if_pos h11] at hm
          cases hm
          exact kk _ _ _ hW hS (lv_sub hl [2] rfl)
        · rw [if_neg h11] at hm
          replace hm := ob hm; obtain ⟨x12, e13, hm⟩ := hm
          refine lv_iinc (v := x12) (lv' := [(2, .int x12), (0, .ref v0), (1, .int v1)]) hx hb dX6_digitsAt_31 hl (k := 2) rfl (Option.some.inj e13) (by decide) rfl (fun ls hl => ?_)
          refine lv_goto (tgt := 2) hx hb dX6_digitsAt_34 (by decide) ?_
          exact ih hm C0 hW hS (lv_sub hl [1, 2, 0] rfl) kk
set_option maxHeartbeats 4000000 in
set_option maxRecDepth 100000 in
theorem b_X6_digitsAt {l : Launch} {D : va_G} {ca : Nat → ClassId} {A : Nat → Prop} {N : Nat} {σ : zS} {v0 : Nat} {v1 : Int32} {r0 : Int32} (hm : m_X6_digitsAt N σ v0 v1 = some r0) : Met l yX6_digitsAt (.code yX6_digitsAt cX6_digitsAt 3 (some .int) :: wsL_law) ({ frames := 1, cells := 0, slots := 0, locals := 21 } : Room) (va_Pc [.ref v0, .int v1] (zP D ca A σ)) (zQi r0 D ca A σ) 0 0 A := by
  refine zMk (by decide +kernel) (Nat.le_of_ble_eq_true rfl) ?_
  intro p e s m below meth c C0 hr hlocks hin hW ls hl
  have hx := C0.1
  have hb := C0.2.1
  have hS : va_S A s.heap s.heap [] := va_S.rf
  have hl : lv_has ls 3 [(0, .ref v0), (1, .int v1)] := hl
  unfold m_X6_digitsAt at hm
  refine lv_iconst (v := 0) hx hb dX6_digitsAt_0 (by decide) ?_
  refine lv_istore_n (lv' := [(2, .int 0), (0, .ref v0), (1, .int v1)]) hx hb dX6_digitsAt_1 rfl hl (by decide) rfl (fun ls hl => ?_)
  replace hm := ob hm; obtain ⟨y14, e15, hm⟩ := hm
  refine w_X6_digitsAt_L2 N N e15 C0 hW hS (lv_sub hl [1, 2, 0] rfl) (fun H locs ls hW hS hl => ?_)
  refine lv_iload_n hx hb dX6_digitsAt_37 rfl (lv_at hl 0 rfl) ?_
  cases hm
  exact r_iret C0 hr hlocks hW hS dX6_digitsAt_38
set_option maxHeartbeats 4000000 in
set_option maxRecDepth 100000 in
theorem w_X6_numberAt_L5 {p : Program} {l : Launch} {e : Env} {s : State} {m : MethodId} {args : Array Value} {below : List Frame} {meth : Method} {c : Code} {D : va_G} {ca : Nat → ClassId} {A : Nat → Prop} {Q : State → Prop} (N : Nat) : ∀ (n : Nat) {σ : zS} {v0 : Nat} {v1 : Int32} {v2 : Int32} {v3 : Int32} {v4 : Int32} {y3 : Int32} {H : Heap} {locs : List Loc} {ls : Array Slot}, m_X6_numberAt_L5 N n σ v0 v1 v2 v3 v4 = some y3 → zC p s m args c RX6 cX6_numberAt 5 D ca A → zW D ca A σ H → va_S A s.heap H locs → lv_has ls 5 [(0, .ref v0), (1, .int v1), (2, .int v2), (3, .int v3), (4, .int v4)] → (∀ (H : Heap) (locs : List Loc) (ls : Array Slot), zW D ca A σ H → va_S A s.heap H locs → lv_has ls 5 [(3, .int y3)] → W p l e ({ frames := 1, cells := 0, slots := 0, locals := 21 } : Room) s m args below meth c H locs 0 0 Q (F0 m 34 ls [])) → W p l e ({ frames := 1, cells := 0, slots := 0, locals := 21 } : Room) s m args below meth c H locs 0 0 Q (F0 m 5 ls []) := by
  intro n
  induction n with
  | zero =>
    intro σ v0 v1 v2 v3 v4 y3 H locs ls hm C0 hW hS hl kk
    rw [m_X6_numberAt_L5] at hm
    cases hm
  | succ n ih =>
    intro σ v0 v1 v2 v3 v4 y3 H locs ls hm C0 hW hS hl kk
    rw [m_X6_numberAt_L5] at hm
    have hx := C0.1
    have hb := C0.2.1
    refine lv_iload hx hb dX6_numberAt_5 (lv_at hl 4 rfl) ?_
    refine lv_iload_n hx hb dX6_numberAt_7 rfl (lv_at hl 2 rfl) ?_
    refine lv_icmp_ge (tgt := 34) hx hb dX6_numberAt_8 (by decide) (fun h1 => ?_) (fun h1 => ?_)
    · rw [if_pos h1] at hm
      cases hm
      exact kk _ _ _ hW hS (lv_sub hl [3] rfl)
    · rw [if_neg h1] at hm
      refine lv_iload_n hx hb dX6_numberAt_11 rfl (lv_at hl 3 rfl) ?_
      refine lv_bipush (v := 10) hx hb dX6_numberAt_12 (by decide) ?_
      refine lv_imul hx hb dX6_numberAt_14 ?_
      refine lv_aload_n hx hb dX6_numberAt_15 rfl (lv_at hl 0 rfl) ?_
      refine lv_iload_n hx hb dX6_numberAt_16 rfl (lv_at hl 1 rfl) ?_
      refine lv_iload hx hb dX6_numberAt_17 (lv_at hl 4 rfl) ?_
      refine lv_iadd hx hb dX6_numberAt_19 ?_
      replace hm := ob hm; obtain ⟨u2, e3, hm⟩ := hm
      replace hm := ob hm; obtain ⟨x5, e4, hm⟩ := hm
      refine z_calli (z_runV (As := [.int (v1 + v4)]) (rest := [.int (v3 * 10)]) (ci := 6) rfl rfl C0 lv_X6_19 (b_X6_signAt e4) hW hS e3 rfl hl.1 rfl (Nat.le_of_ble_eq_true rfl) dX6_numberAt_20 rfl rfl ⟨Nat.le_of_ble_eq_true rfl, Nat.le_of_ble_eq_true rfl⟩ ⟨Nat.le_refl _, Nat.le_refl _⟩) hS (fun H locs hW hS => ?_)
      refine lv_bipush (v := 48) hx hb dX6_numberAt_23 (by decide) ?_
      refine lv_isub hx hb dX6_numberAt_25 ?_
      refine lv_iadd hx hb dX6_numberAt_26 ?_
      replace hm := ob hm; obtain ⟨x6, e7, hm⟩ := hm
      refine z_top e7 ?_
      refine lv_istore_n (lv' := [(3, .int x6), (0, .ref v0), (1, .int v1), (2, .int v2), (4, .int v4)]) hx hb dX6_numberAt_27 rfl hl (by decide) rfl (fun ls hl => ?_)
      replace hm := ob hm; obtain ⟨x8, e9, hm⟩ := hm
      refine lv_iinc (v := x8) (lv' := [(4, .int x8), (3, .int x6), (0, .ref v0), (1, .int v1), (2, .int v2)]) hx hb dX6_numberAt_28 hl (k := 4) rfl (Option.some.inj e9) (by decide) rfl (fun ls hl => ?_)
      refine lv_goto (tgt := 5) hx hb dX6_numberAt_31 (by decide) ?_
      exact ih hm C0 hW hS (lv_sub hl [2, 3, 4, 1, 0] rfl) kk
set_option maxHeartbeats 4000000 in
set_option maxRecDepth 100000 in
theorem b_X6_numberAt {l : Launch} {D : va_G} {ca : Nat → ClassId} {A : Nat → Prop} {N : Nat} {σ : zS} {v0 : Nat} {v1 : Int32} {v2 : Int32} {r0 : Int32} (hm : m_X6_numberAt N σ v0 v1 v2 = some r0) : Met l yX6_numberAt (.code yX6_numberAt cX6_numberAt 5 (some .int) :: wsL_law) ({ frames := 1, cells := 0, slots := 0, locals := 21 } : Room) (va_Pc [.ref v0, .int v1, .int v2] (zP D ca A σ)) (zQi r0 D ca A σ) 0 0 A := by
  refine zMk (by decide +kernel) (Nat.le_of_ble_eq_true rfl) ?_
  intro p e s m below meth c C0 hr hlocks hin hW ls hl
  have hx := C0.1
  have hb := C0.2.1
  have hS : va_S A s.heap s.heap [] := va_S.rf
  have hl : lv_has ls 5 [(0, .ref v0), (1, .int v1), (2, .int v2)] := hl
  unfold m_X6_numberAt at hm
  refine lv_iconst (v := 0) hx hb dX6_numberAt_0 (by decide) ?_
  refine lv_istore_n (lv' := [(3, .int 0), (0, .ref v0), (1, .int v1), (2, .int v2)]) hx hb dX6_numberAt_1 rfl hl (by decide) rfl (fun ls hl => ?_)
  refine lv_iconst (v := 0) hx hb dX6_numberAt_2 (by decide) ?_
  refine lv_istore (lv' := [(4, .int 0), (3, .int 0), (0, .ref v0), (1, .int v1), (2, .int v2)]) hx hb dX6_numberAt_3 hl (by decide) rfl (fun ls hl => ?_)
  replace hm := ob hm; obtain ⟨y10, e11, hm⟩ := hm
  refine w_X6_numberAt_L5 N N e11 C0 hW hS (lv_sub hl [2, 3, 4, 1, 0] rfl) (fun H locs ls hW hS hl => ?_)
  refine lv_iload_n hx hb dX6_numberAt_34 rfl (lv_at hl 0 rfl) ?_
  cases hm
  exact r_iret C0 hr hlocks hW hS dX6_numberAt_35
set_option maxHeartbeats 4000000 in
set_option maxRecDepth 100000 in
theorem w_X0_read_L22 {p : Program} {l : Launch} {e : Env} {s : State} {m : MethodId} {args : Array Value} {below : List Frame} {meth : Method} {c : Code} {D : va_G} {ca : Nat → ClassId} {A : Nat → Prop} {Q : State → Prop} (N : Nat) : ∀ (n : Nat) {σ : zS} {v0 : Nat} {v1 : Nat} {v3 : Int32} {v4 : Int32} {v5 : Int32} {res : (Int32 × zS) ⊕ (Int32 × zS)} {H : Heap} {locs : List Loc} {ls : Array Slot}, m_X0_read_L22 N n σ v0 v1 v3 v4 v5 = some res → zC p s m args c RX0 cX0_read 8 D ca A → zW D ca A σ H → va_S A s.heap H locs → lv_has ls 8 [(0, .ref v0), (1, .ref v1), (3, .int v3), (4, .int v4), (5, .int v5)] → (∀ (r : Int32 × zS), res = .inl r → ∀ (pc : Nat) (H : Heap) (locs : List Loc) (ls : Array Slot), decode cX0_read pc = .ok (.ireturn, 1) → zW D ca A r.2 H → va_S A s.heap H locs → narrow .boolean (.int r.1) = .int r.1 → W p l e ({ frames := 2, cells := 0, slots := 0, locals := 45 } : Room) s m args below meth c H locs 0 0 Q (F0 m pc ls [.int r.1])) → (∀  (y4 : Int32) (σ' : zS), res = .inr (y4, σ') → ∀ (H : Heap) (locs : List Loc) (ls : Array Slot), zW D ca A σ' H → va_S A s.heap H locs → lv_has ls 8 [(0, .ref v0), (3, .int v3), (4, .int y4)] → W p l e ({ frames := 2, cells := 0, slots := 0, locals := 45 } : Room) s m args below meth c H locs 0 0 Q (F0 m 114 ls [])) → W p l e ({ frames := 2, cells := 0, slots := 0, locals := 45 } : Room) s m args below meth c H locs 0 0 Q (F0 m 22 ls []) := by
  intro n
  induction n with
  | zero =>
    intro σ v0 v1 v3 v4 v5 res H locs ls hm C0 hW hS hl kr kk
    rw [m_X0_read_L22] at hm
    cases hm
  | succ n ih =>
    intro σ v0 v1 v3 v4 v5 res H locs ls hm C0 hW hS hl kr kk
    rw [m_X0_read_L22] at hm
    have hx := C0.1
    have hb := C0.2.1
    refine lv_iload hx hb dX0_read_22 (lv_at hl 4 rfl) ?_
    refine lv_iload_n hx hb dX0_read_24 rfl (lv_at hl 2 rfl) ?_
    refine lv_icmp_ge (tgt := 114) hx hb dX0_read_25 (by decide) (fun h15 => ?_) (fun h15 => ?_)
    · rw [if_pos h15] at hm
      cases hm
      exact kk _ _ rfl _ _ _ hW hS (lv_sub hl [0, 2, 3] rfl)
    · rw [if_neg h15] at hm
      refine lv_iload hx hb dX0_read_28 (lv_at hl 4 rfl) ?_
      refine lv_aload_n hx hb dX0_read_30 rfl (lv_at hl 0 rfl) ?_
      replace hm := ob hm; obtain ⟨a16, e17, hm⟩ := hm
      refine r_getA C0 hW fl_X0_7 e17 dX0_read_31 ?_
      replace hm := ob hm; obtain ⟨x18, e19, hm⟩ := hm
      refine r_aL (kd := 1) rfl C0 hW e19 dX0_read_34 ?_
      refine lv_icmp_ge (tgt := 114) hx hb dX0_read_35 (by decide) (fun h20 => ?_) (fun h20 => ?_)
      · rw [if_pos h20] at hm
        cases hm
        exact kk _ _ rfl _ _ _ hW hS (lv_sub hl [0, 2, 3] rfl)
      · rw [if_neg h20] at hm
        refine lv_aload_n hx hb dX0_read_38 rfl (lv_at hl 1 rfl) ?_
        refine lv_iload hx hb dX0_read_39 (lv_at hl 3 rfl) ?_
        replace hm := ob hm; obtain ⟨u21, e22, hm⟩ := hm
        replace hm := ob hm; obtain ⟨x24, e23, hm⟩ := hm
        refine z_calli (z_runV (As := [.int v4]) (rest := []) (ci := 6) rfl rfl C0 lv_X0_27 (b_X6_digitsAt e23) hW hS e22 rfl hl.1 rfl (Nat.le_of_ble_eq_true rfl) dX0_read_41 rfl rfl ⟨Nat.le_of_ble_eq_true rfl, Nat.le_of_ble_eq_true rfl⟩ ⟨Nat.le_refl _, Nat.le_refl _⟩) hS (fun H locs hW hS => ?_)
        refine lv_istore (lv' := [(6, .int x24), (0, .ref v0), (1, .ref v1), (3, .int v3), (4, .int v4), (5, .int v5)]) hx hb dX0_read_44 hl (by decide) rfl (fun ls hl => ?_)
        refine lv_aload_n hx hb dX0_read_46 rfl (lv_at hl 1 rfl) ?_
        replace hm := ob hm; obtain ⟨a25, e26, hm⟩ := hm
        refine r_getA C0 hW fl_X0_7 e26 dX0_read_47 ?_
        refine lv_iload hx hb dX0_read_50 (lv_at hl 5 rfl) ?_
        refine lv_aload_n hx hb dX0_read_52 rfl (lv_at hl 2 rfl) ?_
        refine lv_iload hx hb dX0_read_53 (lv_at hl 4 rfl) ?_
        refine lv_iload hx hb dX0_read_55 (lv_at hl 0 rfl) ?_
        replace hm := ob hm; obtain ⟨u27, e28, hm⟩ := hm
        replace hm := ob hm; obtain ⟨x30, e29, hm⟩ := hm
        refine z_calli (z_runV (As := [.int v4, .int x24]) (rest := [.int v5, .ref a25]) (ci := 6) rfl rfl C0 lv_X0_31 (b_X6_numberAt e29) hW hS e28 rfl hl.1 rfl (Nat.le_of_ble_eq_true rfl) dX0_read_57 rfl rfl ⟨Nat.le_of_ble_eq_true rfl, Nat.le_of_ble_eq_true rfl⟩ ⟨Nat.le_refl _, Nat.le_refl _⟩) hS (fun H locs hW hS => ?_)
        replace hm := ob hm; obtain ⟨σ31, e32, hm⟩ := hm
        refine r_uI C0 hW hS e32 dX0_read_60 (fun H locs hW hS => ?_)
        refine lv_iload hx hb dX0_read_61 (lv_at hl 5 rfl) ?_
        refine lv_iconst (v := 1) hx hb dX0_read_63 (by decide) ?_
        refine lv_iadd hx hb dX0_read_64 ?_
        refine lv_iload_n hx hb dX0_read_65 rfl (lv_at hl 3 rfl) ?_
        replace hm := ob hm; obtain ⟨y35, e46, hm⟩ := hm
        have J76_33 : ∀ (H : Heap) (locs : List Loc) (ls : Array Slot), zW D ca A σ31 H → va_S A s.heap H locs → lv_has ls 8 [(6, .int x24), (0, .ref v0), (1, .ref v1), (3, .int v3), (4, .int v4), (5, .int v5)] → W p l e ({ frames := 2, cells := 0, slots := 0, locals := 45 } : Room) s m args below meth c H locs 0 0 Q (F0 m 76 ls [.int y35]) := by
          intro H locs ls hW hS hl
          refine lv_istore (lv' := [(7, .int y35), (6, .int x24), (0, .ref v0), (1, .ref v1), (3, .int v3), (4, .int v4), (5, .int v5)]) hx hb dX0_read_76 hl (by decide) rfl (fun ls hl => ?_)
          refine lv_iload hx hb dX0_read_78 (lv_at hl 1 rfl) ?_
          refine lv_if_eq (tgt := 97) hx hb dX0_read_80 (by decide) (fun h36 => ?_) (fun h36 => ?_)
          · rw [if_pos h36] at hm
            refine lv_iconst (v := 0) hx hb dX0_read_97 (by decide) ?_
            cases hm
            exact kr _ rfl _ _ _ _ dX0_read_98 hW hS nz0
          · rw [if_neg h36] at hm
            refine lv_aload_n hx hb dX0_read_83 rfl (lv_at hl 3 rfl) ?_
            refine lv_iload hx hb dX0_read_84 (lv_at hl 5 rfl) ?_
            refine lv_iload hx hb dX0_read_86 (lv_at hl 1 rfl) ?_
            refine lv_iadd hx hb dX0_read_88 ?_
            replace hm := ob hm; obtain ⟨u37, e38, hm⟩ := hm
            replace hm := ob hm; obtain ⟨x40, e39, hm⟩ := hm
            refine z_calli (z_runV (As := [.int (v4 + x24)]) (rest := []) (ci := 6) rfl rfl C0 lv_X0_17 (b_X6_signAt e39) hW hS e38 rfl hl.1 rfl (Nat.le_of_ble_eq_true rfl) dX0_read_89 rfl rfl ⟨Nat.le_of_ble_eq_true rfl, Nat.le_of_ble_eq_true rfl⟩ ⟨Nat.le_refl _, Nat.le_refl _⟩) hS (fun H locs hW hS => ?_)
            refine lv_iload hx hb dX0_read_92 (lv_at hl 0 rfl) ?_
            refine lv_icmp_eq (tgt := 99) hx hb dX0_read_94 (by decide) (fun h41 => ?_) (fun h41 => ?_)
            · rw [if_pos h41] at hm
              refine lv_iload hx hb dX0_read_99 (lv_at hl 5 rfl) ?_
              refine lv_iload hx hb dX0_read_101 (lv_at hl 1 rfl) ?_
              refine lv_iconst (v := 1) hx hb dX0_read_103 (by decide) ?_
              refine lv_iadd hx hb dX0_read_104 ?_
              refine lv_iadd hx hb dX0_read_105 ?_
              replace hm := ob hm; obtain ⟨x42, e43, hm⟩ := hm
              refine z_top e43 ?_
              refine lv_istore (lv' := [(4, .int x42), (7, .int y35), (6, .int x24), (0, .ref v0), (1, .ref v1), (3, .int v3), (5, .int v5)]) hx hb dX0_read_106 hl (by decide) rfl (fun ls hl => ?_)
              replace hm := ob hm; obtain ⟨x44, e45, hm⟩ := hm
              refine lv_iinc (v := x44) (lv' := [(5, .int x44), (4, .int x42), (7, .int y35), (6, .int x24), (0, .ref v0), (1, .ref v1), (3, .int v3)]) hx hb dX0_read_108 hl (k := 6) rfl (Option.some.inj e45) (by decide) rfl (fun ls hl => ?_)
              refine lv_goto (tgt := 22) hx hb dX0_read_111 (by decide) ?_
              exact ih hm C0 hW hS (lv_sub hl [4, 5, 6, 1, 0] rfl) kr kk
            · rw [if_neg h41] at hm
              refine lv_iconst (v := 0) hx hb dX0_read_97 (by decide) ?_
              cases hm
              exact kr _ rfl _ _ _ _ dX0_read_98 hW hS nz0
        clear hm
        have hm := e46
        clear e46
        refine lv_icmp_ge (tgt := 74) hx hb dX0_read_66 (by decide) (fun h33 => ?_) (fun h33 => ?_)
        · rw [if_pos h33] at hm
          refine lv_bipush (v := 59) hx hb dX0_read_74 (by decide) ?_
          have hq1 := Option.some.inj hm; subst hq1
          exact J76_33 _ _ _ hW hS (lv_sub hl [0, 1, 2, 3, 4, 5] rfl)
        · rw [if_neg h33] at hm
          refine lv_bipush (v := 44) hx hb dX0_read_69 (by decide) ?_
          refine lv_goto (tgt := 76) hx hb dX0_read_71 (by decide) ?_
          have hq1 := Option.some.inj hm; subst hq1
          exact J76_33 _ _ _ hW hS (lv_sub hl [0, 1, 2, 3, 4, 5] rfl)
set_option maxHeartbeats 4000000 in
set_option maxRecDepth 100000 in
theorem b_X0_read {l : Launch} {D : va_G} {ca : Nat → ClassId} {A : Nat → Prop} {N : Nat} {σ : zS} {v0 : Nat} {v1 : Nat} {v2 : Int32} {r0 : Int32} {σ' : zS} (hm : m_X0_read N σ v0 v1 v2 = some (r0, σ')) : Met l yX0_read (.code yX0_read cX0_read 8 (some .boolean) :: wsL_law) ({ frames := 2, cells := 0, slots := 0, locals := 45 } : Room) (va_Pc [.ref v0, .ref v1, .int v2] (zP D ca A σ)) (zQi r0 D ca A σ') 0 0 A := by
  refine zMk (by decide +kernel) (Nat.le_of_ble_eq_true rfl) ?_
  intro p e s m below meth c C0 hr hlocks hin hW ls hl
  have hx := C0.1
  have hb := C0.2.1
  have hS : va_S A s.heap s.heap [] := va_S.rf
  have hl : lv_has ls 8 [(0, .ref v0), (1, .ref v1), (2, .int v2)] := hl
  unfold m_X0_read at hm
  refine lv_aload_n hx hb dX0_read_0 rfl (lv_at hl 0 rfl) ?_
  refine lv_aload_n hx hb dX0_read_1 rfl (lv_at hl 1 rfl) ?_
  refine lv_iload_n hx hb dX0_read_2 rfl (lv_at hl 2 rfl) ?_
  replace hm := ob hm; obtain ⟨u1, e2, hm⟩ := hm
  replace hm := ob hm; obtain ⟨x4, e3, hm⟩ := hm
  refine z_calli (z_runV (As := [.int v2]) (rest := [.ref v0]) (ci := 6) rfl rfl C0 lv_X0_17 (b_X6_signAt e3) hW hS e2 rfl hl.1 rfl (Nat.le_of_ble_eq_true rfl) dX0_read_3 rfl rfl ⟨Nat.le_of_ble_eq_true rfl, Nat.le_of_ble_eq_true rfl⟩ ⟨Nat.le_refl _, Nat.le_refl _⟩) hS (fun H locs hW hS => ?_)
  replace hm := ob hm; obtain ⟨x7, e8, hm⟩ := hm
  replace hm := ob hm; obtain ⟨σ5, e6, hm⟩ := hm
  refine r_putC C0 hW hS fl_X0_13 e8 e6 dX0_read_6 (fun H locs hW hS => ?_)
  refine lv_aload_n hx hb dX0_read_9 rfl (lv_at hl 0 rfl) ?_
  replace hm := ob hm; obtain ⟨u9, e10, hm⟩ := hm
  replace hm := ob hm; obtain ⟨x12, e11, hm⟩ := hm
  refine z_calli (z_runV (As := []) (rest := []) (ci := 0) rfl rfl C0 lv_X0_23 (b_X0_numbersWanted e11) hW hS e10 rfl hl.1 rfl (Nat.le_of_ble_eq_true rfl) dX0_read_10 rfl rfl ⟨Nat.le_of_ble_eq_true rfl, Nat.le_of_ble_eq_true rfl⟩ ⟨Nat.le_refl _, Nat.le_refl _⟩) hS (fun H locs hW hS => ?_)
  refine lv_istore_n (lv' := [(3, .int x12), (0, .ref v0), (1, .ref v1), (2, .int v2)]) hx hb dX0_read_13 rfl hl (by decide) rfl (fun ls hl => ?_)
  refine lv_iload_n hx hb dX0_read_14 rfl (lv_at hl 3 rfl) ?_
  refine lv_iconst (v := 1) hx hb dX0_read_15 (by decide) ?_
  refine lv_iadd hx hb dX0_read_16 ?_
  replace hm := ob hm; obtain ⟨x13, e14, hm⟩ := hm
  refine z_top e14 ?_
  refine lv_istore (lv' := [(4, .int x13), (3, .int x12), (0, .ref v0), (1, .ref v1), (2, .int v2)]) hx hb dX0_read_17 hl (by decide) rfl (fun ls hl => ?_)
  refine lv_iconst (v := 0) hx hb dX0_read_19 (by decide) ?_
  refine lv_istore (lv' := [(5, .int 0), (4, .int x13), (3, .int x12), (0, .ref v0), (1, .ref v1), (2, .int v2)]) hx hb dX0_read_20 hl (by decide) rfl (fun ls hl => ?_)
  replace hm := obs hm; rcases hm with ⟨r9, e49, hm⟩ | ⟨z9, e49, hm⟩
  · cases hm
    refine w_X0_read_L22 N N e49 C0 hW hS (lv_sub hl [3, 4, 2, 1, 0] rfl) (fun _ hq pc2 H locs ls d2 hW hS hq2 => ?_) (fun _ _ hq => by cases hq)
    cases hq
    exact r_zret C0 hr hq2 hlocks hW hS d2
  · replace hm := o2 hm; obtain ⟨y47, σ48, e0, hm⟩ := hm; cases e0
    refine w_X0_read_L22 N N e49 C0 hW hS (lv_sub hl [3, 4, 2, 1, 0] rfl) (fun _ hq => by cases hq) (fun q0 q1 hq H locs ls hW hS hl => ?_)
    cases hq
    refine lv_aload_n hx hb dX0_read_114 rfl (lv_at hl 0 rfl) ?_
    refine lv_iload hx hb dX0_read_115 (lv_at hl 2 rfl) ?_
    replace hm := ob hm; obtain ⟨σ50, e51, hm⟩ := hm
    refine r_putI C0 hW hS fl_X0_35 e51 dX0_read_117 (fun H locs hW hS => ?_)
    refine lv_iload_n hx hb dX0_read_120 rfl (lv_at hl 1 rfl) ?_
    refine lv_if_le (tgt := 128) hx hb dX0_read_121 (by decide) (fun h52 => ?_) (fun h52 => ?_)
    · rw [if_pos h52] at hm
      refine lv_iconst (v := 0) hx hb dX0_read_128 (by decide) ?_
      obtain ⟨hq8, hq9⟩ := Prod.mk.inj (Option.some.inj hm); subst hq8; subst hq9
      exact r_zret C0 hr rfl hlocks hW hS dX0_read_129
    · rw [if_neg h52] at hm
      refine lv_iconst (v := 1) hx hb dX0_read_124 (by decide) ?_
      refine lv_goto (tgt := 129) hx hb dX0_read_125 (by decide) ?_
      obtain ⟨hq8, hq9⟩ := Prod.mk.inj (Option.some.inj hm); subst hq8; subst hq9
      exact r_zret C0 hr rfl hlocks hW hS dX0_read_129
set_option maxHeartbeats 4000000 in
set_option maxRecDepth 100000 in
theorem w_X1_dropOldest_L9 {p : Program} {l : Launch} {e : Env} {s : State} {m : MethodId} {args : Array Value} {below : List Frame} {meth : Method} {c : Code} {D : va_G} {ca : Nat → ClassId} {A : Nat → Prop} {Q : State → Prop} (N : Nat) : ∀ (n : Nat) {σ : zS} {v0 : Nat} {v1 : Nat} {v2 : Int32} {σ' : zS} {H : Heap} {locs : List Loc} {ls : Array Slot}, m_X1_dropOldest_L9 N n σ v0 v1 v2 = some σ' → zC p s m args c RX1 cX1_dropOldest 3 D ca A → zW D ca A σ H → va_S A s.heap H locs → lv_has ls 3 [(0, .ref v0), (1, .ref v1), (2, .int v2)] → (∀ (H : Heap) (locs : List Loc) (ls : Array Slot), zW D ca A σ' H → va_S A s.heap H locs → lv_has ls 3 [(0, .ref v0), (1, .ref v1)] → W p l e ({ frames := 0, cells := 0, slots := 0, locals := 0 } : Room) s m args below meth c H locs 0 0 Q (F0 m 34 ls [])) → W p l e ({ frames := 0, cells := 0, slots := 0, locals := 0 } : Room) s m args below meth c H locs 0 0 Q (F0 m 9 ls []) := by
  intro n
  induction n with
  | zero =>
    intro σ v0 v1 v2 σ' H locs ls hm C0 hW hS hl kk
    rw [m_X1_dropOldest_L9] at hm
    cases hm
  | succ n ih =>
    intro σ v0 v1 v2 σ' H locs ls hm C0 hW hS hl kk
    rw [m_X1_dropOldest_L9] at hm
    have hx := C0.1
    have hb := C0.2.1
    refine lv_iload_n hx hb dX1_dropOldest_9 rfl (lv_at hl 2 rfl) ?_
    refine lv_iconst (v := 4) hx hb dX1_dropOldest_10 (by decide) ?_
    refine lv_icmp_ge (tgt := 34) hx hb dX1_dropOldest_11 (by decide) (fun h5 => ?_) (fun h5 => ?_)
    · rw [if_pos h5] at hm
      cases hm
      exact kk _ _ _ hW hS (lv_sub hl [0, 1] rfl)
    · rw [if_neg h5] at hm
      refine lv_aload_n hx hb dX1_dropOldest_14 rfl (lv_at hl 0 rfl) ?_
      replace hm := ob hm; obtain ⟨a6, e7, hm⟩ := hm
      refine r_getA C0 hW fl_X1_11 e7 dX1_dropOldest_15 ?_
      refine lv_iload_n hx hb dX1_dropOldest_18 rfl (lv_at hl 2 rfl) ?_
      refine lv_iconst (v := 1) hx hb dX1_dropOldest_19 (by decide) ?_
      refine lv_isub hx hb dX1_dropOldest_20 ?_
      refine lv_aload_n hx hb dX1_dropOldest_21 rfl (lv_at hl 0 rfl) ?_
      replace hm := ob hm; obtain ⟨a8, e9, hm⟩ := hm
      refine r_getA C0 hW fl_X1_11 e9 dX1_dropOldest_22 ?_
      refine lv_iload_n hx hb dX1_dropOldest_25 rfl (lv_at hl 2 rfl) ?_
      replace hm := ob hm; obtain ⟨a10, e11, hm⟩ := hm
      refine r_aA (kd := 2) rfl C0 hW e11 dX1_dropOldest_26 ?_
      replace hm := ob hm; obtain ⟨σ12, e13, hm⟩ := hm
      refine r_uA (kd := 2) (ci := 4) rfl rfl C0 hW hS e13 dX1_dropOldest_27 (fun H locs hW hS => ?_)
      replace hm := ob hm; obtain ⟨x14, e15, hm⟩ := hm
      refine lv_iinc (v := x14) (lv' := [(2, .int x14), (0, .ref v0), (1, .ref v1)]) hx hb dX1_dropOldest_28 hl (k := 2) rfl (Option.some.inj e15) (by decide) rfl (fun ls hl => ?_)
      refine lv_goto (tgt := 9) hx hb dX1_dropOldest_31 (by decide) ?_
      exact ih hm C0 hW hS (lv_sub hl [1, 2, 0] rfl) kk
set_option maxHeartbeats 4000000 in
set_option maxRecDepth 100000 in
theorem b_X1_dropOldest {l : Launch} {D : va_G} {ca : Nat → ClassId} {A : Nat → Prop} {N : Nat} {σ : zS} {v0 : Nat} {σ' : zS} (hm : m_X1_dropOldest N σ v0 = some σ') : Met l yX1_dropOldest (.code yX1_dropOldest cX1_dropOldest 3 none :: wsL_law) ({ frames := 0, cells := 0, slots := 0, locals := 0 } : Room) (va_Pc [.ref v0] (zP D ca A σ)) (zQv D ca A σ') 0 0 A := by
  refine zMk (by decide +kernel) (Nat.le_of_ble_eq_true rfl) ?_
  intro p e s m below meth c C0 hr hlocks hin hW ls hl
  have hx := C0.1
  have hb := C0.2.1
  have hS : va_S A s.heap s.heap [] := va_S.rf
  have hl : lv_has ls 3 [(0, .ref v0)] := hl
  unfold m_X1_dropOldest at hm
  refine lv_aload_n hx hb dX1_dropOldest_0 rfl (lv_at hl 0 rfl) ?_
  replace hm := ob hm; obtain ⟨a1, e2, hm⟩ := hm
  refine r_getA C0 hW fl_X1_11 e2 dX1_dropOldest_1 ?_
  refine lv_iconst (v := 0) hx hb dX1_dropOldest_4 (by decide) ?_
  replace hm := ob hm; obtain ⟨a3, e4, hm⟩ := hm
  refine r_aA (kd := 2) rfl C0 hW e4 dX1_dropOldest_5 ?_
  refine lv_astore_n (lv' := [(1, .ref a3), (0, .ref v0)]) hx hb dX1_dropOldest_6 rfl hl (by decide) rfl (fun ls hl => ?_)
  refine lv_iconst (v := 1) hx hb dX1_dropOldest_7 (by decide) ?_
  refine lv_istore_n (lv' := [(2, .int 1), (1, .ref a3), (0, .ref v0)]) hx hb dX1_dropOldest_8 rfl hl (by decide) rfl (fun ls hl => ?_)
  replace hm := ob hm; obtain ⟨σ16, e17, hm⟩ := hm
  refine w_X1_dropOldest_L9 N N e17 C0 hW hS (lv_sub hl [2, 1, 0] rfl) (fun H locs ls hW hS hl => ?_)
  refine lv_aload_n hx hb dX1_dropOldest_34 rfl (lv_at hl 0 rfl) ?_
  replace hm := ob hm; obtain ⟨a18, e19, hm⟩ := hm
  refine r_getA C0 hW fl_X1_11 e19 dX1_dropOldest_35 ?_
  refine lv_iconst (v := 3) hx hb dX1_dropOldest_38 (by decide) ?_
  refine lv_aload_n hx hb dX1_dropOldest_39 rfl (lv_at hl 1 rfl) ?_
  replace hm := ob hm; obtain ⟨σ20, e21, hm⟩ := hm
  refine r_uA (kd := 2) (ci := 4) rfl rfl C0 hW hS e21 dX1_dropOldest_40 (fun H locs hW hS => ?_)
  refine lv_aload_n hx hb dX1_dropOldest_41 rfl (lv_at hl 0 rfl) ?_
  refine lv_dup hx hb dX1_dropOldest_42 rfl ?_
  replace hm := ob hm; obtain ⟨x22, e23, hm⟩ := hm
  refine r_getI C0 hW fl_X1_18 e23 dX1_dropOldest_43 ?_
  refine lv_iconst (v := 1) hx hb dX1_dropOldest_46 (by decide) ?_
  refine lv_isub hx hb dX1_dropOldest_47 ?_
  replace hm := ob hm; obtain ⟨σ24, e25, hm⟩ := hm
  refine r_putI C0 hW hS fl_X1_18 e25 dX1_dropOldest_48 (fun H locs hW hS => ?_)
  cases hm
  exact r_vret C0 hr hlocks hW hS dX1_dropOldest_51
set_option maxHeartbeats 4000000 in
set_option maxRecDepth 100000 in
theorem b_X1_slotAt {l : Launch} {D : va_G} {ca : Nat → ClassId} {A : Nat → Prop} {N : Nat} {σ : zS} {v0 : Nat} {v1 : Int32} {r0 : Option Nat} (hm : m_X1_slotAt N σ v0 v1 = some r0) : Met l yX1_slotAt (.code yX1_slotAt cX1_slotAt 2 (some (.object "RoughTables$State")) :: wsL_law) ({ frames := 0, cells := 0, slots := 0, locals := 0 } : Room) (va_Pc [.ref v0, .int v1] (zP D ca A σ)) (zQq r0 D ca A σ) 0 0 A := by
  refine zMk (by decide +kernel) (Nat.le_of_ble_eq_true rfl) ?_
  intro p e s m below meth c C0 hr hlocks hin hW ls hl
  have hx := C0.1
  have hb := C0.2.1
  have hS : va_S A s.heap s.heap [] := va_S.rf
  have hl : lv_has ls 2 [(0, .ref v0), (1, .int v1)] := hl
  unfold m_X1_slotAt at hm
  refine lv_iload_n hx hb dX1_slotAt_0 rfl (lv_at hl 1 rfl) ?_
  refine lv_if_lt (tgt := 18) hx hb dX1_slotAt_1 (by decide) (fun h1 => ?_) (fun h1 => ?_)
  · rw [if_pos h1] at hm
    refine lv_null hx hb dX1_slotAt_18 ?_
    cases hm
    exact r_aret (v := none) C0 hr hlocks hW hS dX1_slotAt_19
  · rw [if_neg h1] at hm
    refine lv_iload_n hx hb dX1_slotAt_4 rfl (lv_at hl 1 rfl) ?_
    refine lv_iconst (v := 4) hx hb dX1_slotAt_5 (by decide) ?_
    refine lv_icmp_ge (tgt := 18) hx hb dX1_slotAt_6 (by decide) (fun h2 => ?_) (fun h2 => ?_)
    · rw [if_pos h2] at hm
      refine lv_null hx hb dX1_slotAt_18 ?_
      cases hm
      exact r_aret (v := none) C0 hr hlocks hW hS dX1_slotAt_19
    · rw [if_neg h2] at hm
      refine lv_aload_n hx hb dX1_slotAt_9 rfl (lv_at hl 0 rfl) ?_
      replace hm := ob hm; obtain ⟨a3, e4, hm⟩ := hm
      refine r_getA C0 hW fl_X1_11 e4 dX1_slotAt_10 ?_
      refine lv_iload_n hx hb dX1_slotAt_13 rfl (lv_at hl 1 rfl) ?_
      replace hm := ob hm; obtain ⟨a5, e6, hm⟩ := hm
      refine r_aA (kd := 2) rfl C0 hW e6 dX1_slotAt_14 ?_
      refine lv_goto (tgt := 19) hx hb dX1_slotAt_15 (by decide) ?_
      cases hm
      exact r_aret (v := some a5) C0 hr hlocks hW hS dX1_slotAt_19
set_option maxHeartbeats 4000000 in
set_option maxRecDepth 100000 in
theorem b_X2_copyFrom {l : Launch} {D : va_G} {ca : Nat → ClassId} {A : Nat → Prop} {N : Nat} {σ : zS} {v0 : Nat} {v1 : Nat} {σ' : zS} (hm : m_X2_copyFrom N σ v0 v1 = some σ') : Met l yX2_copyFrom (.code yX2_copyFrom cX2_copyFrom 2 none :: wsL_law) ({ frames := 1, cells := 0, slots := 0, locals := 40 } : Room) (va_Pc [.ref v0, .ref v1] (zP D ca A σ)) (zQv D ca A σ') 0 0 A := by
  refine zMk (by decide +kernel) (Nat.le_of_ble_eq_true rfl) ?_
  intro p e s m below meth c C0 hr hlocks hin hW ls hl
  have hx := C0.1
  have hb := C0.2.1
  have hS : va_S A s.heap s.heap [] := va_S.rf
  have hl : lv_has ls 2 [(0, .ref v0), (1, .ref v1)] := hl
  unfold m_X2_copyFrom at hm
  refine lv_aload_n hx hb dX2_copyFrom_0 rfl (lv_at hl 0 rfl) ?_
  refine lv_aload_n hx hb dX2_copyFrom_1 rfl (lv_at hl 1 rfl) ?_
  replace hm := ob hm; obtain ⟨x1, e2, hm⟩ := hm
  refine r_getI C0 hW fl_X2_21 e2 dX2_copyFrom_2 ?_
  replace hm := ob hm; obtain ⟨σ3, e4, hm⟩ := hm
  refine r_putI C0 hW hS fl_X2_21 e4 dX2_copyFrom_5 (fun H locs hW hS => ?_)
  refine lv_aload_n hx hb dX2_copyFrom_8 rfl (lv_at hl 1 rfl) ?_
  replace hm := ob hm; obtain ⟨a5, e6, hm⟩ := hm
  refine r_getA C0 hW fl_X2_9 e6 dX2_copyFrom_9 ?_
  refine lv_iconst (v := 0) hx hb dX2_copyFrom_12 (by decide) ?_
  refine lv_aload_n hx hb dX2_copyFrom_13 rfl (lv_at hl 0 rfl) ?_
  replace hm := ob hm; obtain ⟨a7, e8, hm⟩ := hm
  refine r_getA C0 hW fl_X2_9 e8 dX2_copyFrom_14 ?_
  refine lv_iconst (v := 0) hx hb dX2_copyFrom_17 (by decide) ?_
  refine lv_bipush (v := 8) hx hb dX2_copyFrom_18 (by decide) ?_
  replace hm := ob hm; obtain ⟨σ9, e10, hm⟩ := hm
  refine r_cpI C0 lc_X2_31.1 lc_X2_31.2.1 lc_X2_31.2.2.1 lc_X2_31.2.2.2 hW hS hl.1 (Nat.le_of_ble_eq_true rfl) (by decide) e10 dX2_copyFrom_20 (fun H locs hW hS => ?_)
  refine lv_aload_n hx hb dX2_copyFrom_23 rfl (lv_at hl 1 rfl) ?_
  replace hm := ob hm; obtain ⟨a11, e12, hm⟩ := hm
  refine r_getA C0 hW fl_X2_15 e12 dX2_copyFrom_24 ?_
  refine lv_iconst (v := 0) hx hb dX2_copyFrom_27 (by decide) ?_
  refine lv_aload_n hx hb dX2_copyFrom_28 rfl (lv_at hl 0 rfl) ?_
  replace hm := ob hm; obtain ⟨a13, e14, hm⟩ := hm
  refine r_getA C0 hW fl_X2_15 e14 dX2_copyFrom_29 ?_
  refine lv_iconst (v := 0) hx hb dX2_copyFrom_32 (by decide) ?_
  refine lv_bipush (v := 8) hx hb dX2_copyFrom_33 (by decide) ?_
  replace hm := ob hm; obtain ⟨σ15, e16, hm⟩ := hm
  refine r_cpI C0 lc_X2_31.1 lc_X2_31.2.1 lc_X2_31.2.2.1 lc_X2_31.2.2.2 hW hS hl.1 (Nat.le_of_ble_eq_true rfl) (by decide) e16 dX2_copyFrom_35 (fun H locs hW hS => ?_)
  refine lv_aload_n hx hb dX2_copyFrom_38 rfl (lv_at hl 1 rfl) ?_
  replace hm := ob hm; obtain ⟨a17, e18, hm⟩ := hm
  refine r_getA C0 hW fl_X2_18 e18 dX2_copyFrom_39 ?_
  refine lv_iconst (v := 0) hx hb dX2_copyFrom_42 (by decide) ?_
  refine lv_aload_n hx hb dX2_copyFrom_43 rfl (lv_at hl 0 rfl) ?_
  replace hm := ob hm; obtain ⟨a19, e20, hm⟩ := hm
  refine r_getA C0 hW fl_X2_18 e20 dX2_copyFrom_44 ?_
  refine lv_iconst (v := 0) hx hb dX2_copyFrom_47 (by decide) ?_
  refine lv_bipush (v := 8) hx hb dX2_copyFrom_48 (by decide) ?_
  replace hm := ob hm; obtain ⟨σ21, e22, hm⟩ := hm
  refine r_cpI C0 lc_X2_31.1 lc_X2_31.2.1 lc_X2_31.2.2.1 lc_X2_31.2.2.2 hW hS hl.1 (Nat.le_of_ble_eq_true rfl) (by decide) e22 dX2_copyFrom_50 (fun H locs hW hS => ?_)
  cases hm
  exact r_vret C0 hr hlocks hW hS dX2_copyFrom_53
set_option maxHeartbeats 4000000 in
set_option maxRecDepth 100000 in
theorem b_X4_find {l : Launch} {D : va_G} {ca : Nat → ClassId} {A : Nat → Prop} {N : Nat} {σ : zS} {v0 : Nat} {v1 : Int32} {r0 : Option Nat} (hm : m_X4_find N σ v0 v1 = some r0) : Met l yX4_find (.code yX4_find cX4_find 2 (some (.object "RoughTables$Table")) :: wsL_law) ({ frames := 0, cells := 0, slots := 0, locals := 0 } : Room) (va_Pc [.ref v0, .int v1] (zP D ca A σ)) (zQq r0 D ca A σ) 0 0 A := by
  refine zMk (by decide +kernel) (Nat.le_of_ble_eq_true rfl) ?_
  intro p e s m below meth c C0 hr hlocks hin hW ls hl
  have hx := C0.1
  have hb := C0.2.1
  have hS : va_S A s.heap s.heap [] := va_S.rf
  have hl : lv_has ls 2 [(0, .ref v0), (1, .int v1)] := hl
  unfold m_X4_find at hm
  refine lv_iload_n hx hb dX4_find_0 rfl (lv_at hl 1 rfl) ?_
  refine lv_if_lt (tgt := 27) hx hb dX4_find_1 (by decide) (fun h1 => ?_) (fun h1 => ?_)
  · rw [if_pos h1] at hm
    refine lv_null hx hb dX4_find_27 ?_
    cases hm
    exact r_aret (v := none) C0 hr hlocks hW hS dX4_find_28
  · rw [if_neg h1] at hm
    refine lv_iload_n hx hb dX4_find_4 rfl (lv_at hl 1 rfl) ?_
    refine lv_aload_n hx hb dX4_find_5 rfl (lv_at hl 0 rfl) ?_
    replace hm := ob hm; obtain ⟨x2, e3, hm⟩ := hm
    refine r_getI C0 hW fl_X4_25 e3 dX4_find_6 ?_
    refine lv_icmp_ge (tgt := 27) hx hb dX4_find_9 (by decide) (fun h4 => ?_) (fun h4 => ?_)
    · rw [if_pos h4] at hm
      refine lv_null hx hb dX4_find_27 ?_
      cases hm
      exact r_aret (v := none) C0 hr hlocks hW hS dX4_find_28
    · rw [if_neg h4] at hm
      refine lv_iload_n hx hb dX4_find_12 rfl (lv_at hl 1 rfl) ?_
      refine lv_bipush (v := 6) hx hb dX4_find_13 (by decide) ?_
      refine lv_icmp_ge (tgt := 27) hx hb dX4_find_15 (by decide) (fun h5 => ?_) (fun h5 => ?_)
      · rw [if_pos h5] at hm
        refine lv_null hx hb dX4_find_27 ?_
        cases hm
        exact r_aret (v := none) C0 hr hlocks hW hS dX4_find_28
      · rw [if_neg h5] at hm
        refine lv_aload_n hx hb dX4_find_18 rfl (lv_at hl 0 rfl) ?_
        replace hm := ob hm; obtain ⟨a6, e7, hm⟩ := hm
        refine r_getA C0 hW fl_X4_11 e7 dX4_find_19 ?_
        refine lv_iload_n hx hb dX4_find_22 rfl (lv_at hl 1 rfl) ?_
        replace hm := ob hm; obtain ⟨a8, e9, hm⟩ := hm
        refine r_aA (kd := 3) rfl C0 hW e9 dX4_find_23 ?_
        refine lv_goto (tgt := 28) hx hb dX4_find_24 (by decide) ?_
        cases hm
        exact r_aret (v := some a8) C0 hr hlocks hW hS dX4_find_28
set_option maxHeartbeats 4000000 in
set_option maxRecDepth 100000 in
theorem b_X3_copyFrom {l : Launch} {D : va_G} {ca : Nat → ClassId} {A : Nat → Prop} {N : Nat} {σ : zS} {v0 : Nat} {v1 : Nat} {σ' : zS} (hm : m_X3_copyFrom N σ v0 v1 = some σ') : Met l yX3_copyFrom (.code yX3_copyFrom cX3_copyFrom 2 none :: wsL_law) ({ frames := 1, cells := 0, slots := 0, locals := 40 } : Room) (va_Pc [.ref v0, .ref v1] (zP D ca A σ)) (zQv D ca A σ') 0 0 A := by
  refine zMk (by decide +kernel) (Nat.le_of_ble_eq_true rfl) ?_
  intro p e s m below meth c C0 hr hlocks hin hW ls hl
  have hx := C0.1
  have hb := C0.2.1
  have hS : va_S A s.heap s.heap [] := va_S.rf
  have hl : lv_has ls 2 [(0, .ref v0), (1, .ref v1)] := hl
  unfold m_X3_copyFrom at hm
  refine lv_aload_n hx hb dX3_copyFrom_0 rfl (lv_at hl 0 rfl) ?_
  refine lv_aload_n hx hb dX3_copyFrom_1 rfl (lv_at hl 1 rfl) ?_
  replace hm := ob hm; obtain ⟨x1, e2, hm⟩ := hm
  refine r_getI C0 hW fl_X3_18 e2 dX3_copyFrom_2 ?_
  replace hm := ob hm; obtain ⟨σ3, e4, hm⟩ := hm
  refine r_putI C0 hW hS fl_X3_18 e4 dX3_copyFrom_5 (fun H locs hW hS => ?_)
  refine lv_aload_n hx hb dX3_copyFrom_8 rfl (lv_at hl 0 rfl) ?_
  refine lv_aload_n hx hb dX3_copyFrom_9 rfl (lv_at hl 1 rfl) ?_
  replace hm := ob hm; obtain ⟨x5, e6, hm⟩ := hm
  refine r_getI C0 hW fl_X3_22 e6 dX3_copyFrom_10 ?_
  replace hm := ob hm; obtain ⟨σ7, e8, hm⟩ := hm
  refine r_putI C0 hW hS fl_X3_22 e8 dX3_copyFrom_13 (fun H locs hW hS => ?_)
  refine lv_aload_n hx hb dX3_copyFrom_16 rfl (lv_at hl 0 rfl) ?_
  refine lv_aload_n hx hb dX3_copyFrom_17 rfl (lv_at hl 1 rfl) ?_
  replace hm := ob hm; obtain ⟨x9, e10, hm⟩ := hm
  refine r_getI C0 hW fl_X3_25 e10 dX3_copyFrom_18 ?_
  replace hm := ob hm; obtain ⟨σ11, e12, hm⟩ := hm
  refine r_putI C0 hW hS fl_X3_25 e12 dX3_copyFrom_21 (fun H locs hW hS => ?_)
  refine lv_aload_n hx hb dX3_copyFrom_24 rfl (lv_at hl 0 rfl) ?_
  refine lv_aload_n hx hb dX3_copyFrom_25 rfl (lv_at hl 1 rfl) ?_
  replace hm := ob hm; obtain ⟨x13, e14, hm⟩ := hm
  refine r_getI C0 hW fl_X3_28 e14 dX3_copyFrom_26 ?_
  replace hm := ob hm; obtain ⟨σ15, e16, hm⟩ := hm
  refine r_putI C0 hW hS fl_X3_28 e16 dX3_copyFrom_29 (fun H locs hW hS => ?_)
  refine lv_aload_n hx hb dX3_copyFrom_32 rfl (lv_at hl 0 rfl) ?_
  refine lv_aload_n hx hb dX3_copyFrom_33 rfl (lv_at hl 1 rfl) ?_
  replace hm := ob hm; obtain ⟨x17, e18, hm⟩ := hm
  refine r_getI C0 hW fl_X3_31 e18 dX3_copyFrom_34 ?_
  replace hm := ob hm; obtain ⟨σ19, e20, hm⟩ := hm
  refine r_putI C0 hW hS fl_X3_31 e20 dX3_copyFrom_37 (fun H locs hW hS => ?_)
  refine lv_aload_n hx hb dX3_copyFrom_40 rfl (lv_at hl 1 rfl) ?_
  replace hm := ob hm; obtain ⟨a21, e22, hm⟩ := hm
  refine r_getA C0 hW fl_X3_9 e22 dX3_copyFrom_41 ?_
  refine lv_iconst (v := 0) hx hb dX3_copyFrom_44 (by decide) ?_
  refine lv_aload_n hx hb dX3_copyFrom_45 rfl (lv_at hl 0 rfl) ?_
  replace hm := ob hm; obtain ⟨a23, e24, hm⟩ := hm
  refine r_getA C0 hW fl_X3_9 e24 dX3_copyFrom_46 ?_
  refine lv_iconst (v := 0) hx hb dX3_copyFrom_49 (by decide) ?_
  refine lv_bipush (v := 8) hx hb dX3_copyFrom_50 (by decide) ?_
  replace hm := ob hm; obtain ⟨σ25, e26, hm⟩ := hm
  refine r_cpI C0 lc_X3_40.1 lc_X3_40.2.1 lc_X3_40.2.2.1 lc_X3_40.2.2.2 hW hS hl.1 (Nat.le_of_ble_eq_true rfl) (by decide) e26 dX3_copyFrom_52 (fun H locs hW hS => ?_)
  refine lv_aload_n hx hb dX3_copyFrom_55 rfl (lv_at hl 1 rfl) ?_
  replace hm := ob hm; obtain ⟨a27, e28, hm⟩ := hm
  refine r_getA C0 hW fl_X3_15 e28 dX3_copyFrom_56 ?_
  refine lv_iconst (v := 0) hx hb dX3_copyFrom_59 (by decide) ?_
  refine lv_aload_n hx hb dX3_copyFrom_60 rfl (lv_at hl 0 rfl) ?_
  replace hm := ob hm; obtain ⟨a29, e30, hm⟩ := hm
  refine r_getA C0 hW fl_X3_15 e30 dX3_copyFrom_61 ?_
  refine lv_iconst (v := 0) hx hb dX3_copyFrom_64 (by decide) ?_
  refine lv_bipush (v := 8) hx hb dX3_copyFrom_65 (by decide) ?_
  replace hm := ob hm; obtain ⟨σ31, e32, hm⟩ := hm
  refine r_cpI C0 lc_X3_40.1 lc_X3_40.2.1 lc_X3_40.2.2.1 lc_X3_40.2.2.2 hW hS hl.1 (Nat.le_of_ble_eq_true rfl) (by decide) e32 dX3_copyFrom_67 (fun H locs hW hS => ?_)
  cases hm
  exact r_vret C0 hr hlocks hW hS dX3_copyFrom_70
set_option maxHeartbeats 4000000 in
set_option maxRecDepth 100000 in
theorem b_X5_copyFrom {l : Launch} {D : va_G} {ca : Nat → ClassId} {A : Nat → Prop} {N : Nat} {σ : zS} {v0 : Nat} {v1 : Nat} {σ' : zS} (hm : m_X5_copyFrom N σ v0 v1 = some σ') : Met l yX5_copyFrom (.code yX5_copyFrom cX5_copyFrom 2 none :: wsL_law) ({ frames := 2, cells := 0, slots := 0, locals := 61 } : Room) (va_Pc [.ref v0, .ref v1] (zP D ca A σ)) (zQv D ca A σ') 0 0 A := by
  refine zMk (by decide +kernel) (Nat.le_of_ble_eq_true rfl) ?_
  intro p e s m below meth c C0 hr hlocks hin hW ls hl
  have hx := C0.1
  have hb := C0.2.1
  have hS : va_S A s.heap s.heap [] := va_S.rf
  have hl : lv_has ls 2 [(0, .ref v0), (1, .ref v1)] := hl
  unfold m_X5_copyFrom at hm
  refine lv_aload_n hx hb dX5_copyFrom_0 rfl (lv_at hl 0 rfl) ?_
  replace hm := ob hm; obtain ⟨a1, e2, hm⟩ := hm
  refine r_getA C0 hW fl_X5_12 e2 dX5_copyFrom_1 ?_
  refine lv_aload_n hx hb dX5_copyFrom_4 rfl (lv_at hl 1 rfl) ?_
  replace hm := ob hm; obtain ⟨a3, e4, hm⟩ := hm
  refine r_getA C0 hW fl_X5_12 e4 dX5_copyFrom_5 ?_
  replace hm := ob hm; obtain ⟨u5, e6, hm⟩ := hm
  replace hm := ob hm; obtain ⟨σ8, e7, hm⟩ := hm
  refine z_callv (z_runV (As := [.ref a3]) (rest := []) (ci := 3) rfl rfl C0 lv_X5_46 (b_X3_copyFrom e7) hW hS e6 rfl hl.1 rfl (Nat.le_of_ble_eq_true rfl) dX5_copyFrom_8 rfl rfl ⟨Nat.le_of_ble_eq_true rfl, Nat.le_of_ble_eq_true rfl⟩ ⟨Nat.le_refl _, Nat.le_refl _⟩) hS (fun H locs hW hS => ?_)
  refine lv_aload_n hx hb dX5_copyFrom_11 rfl (lv_at hl 1 rfl) ?_
  replace hm := ob hm; obtain ⟨a9, e10, hm⟩ := hm
  refine r_getA C0 hW fl_X5_18 e10 dX5_copyFrom_12 ?_
  refine lv_iconst (v := 0) hx hb dX5_copyFrom_15 (by decide) ?_
  refine lv_aload_n hx hb dX5_copyFrom_16 rfl (lv_at hl 0 rfl) ?_
  replace hm := ob hm; obtain ⟨a11, e12, hm⟩ := hm
  refine r_getA C0 hW fl_X5_18 e12 dX5_copyFrom_17 ?_
  refine lv_iconst (v := 0) hx hb dX5_copyFrom_20 (by decide) ?_
  refine lv_sipush (v := 1000) hx hb dX5_copyFrom_21 (by decide) ?_
  replace hm := ob hm; obtain ⟨σ13, e14, hm⟩ := hm
  refine r_cpI C0 lc_X5_50.1 lc_X5_50.2.1 lc_X5_50.2.2.1 lc_X5_50.2.2.2 hW hS hl.1 (Nat.le_of_ble_eq_true rfl) (by decide) e14 dX5_copyFrom_24 (fun H locs hW hS => ?_)
  refine lv_aload_n hx hb dX5_copyFrom_27 rfl (lv_at hl 0 rfl) ?_
  refine lv_aload_n hx hb dX5_copyFrom_28 rfl (lv_at hl 1 rfl) ?_
  replace hm := ob hm; obtain ⟨x15, e16, hm⟩ := hm
  refine r_getI C0 hW fl_X5_32 e16 dX5_copyFrom_29 ?_
  replace hm := ob hm; obtain ⟨σ17, e18, hm⟩ := hm
  refine r_putI C0 hW hS fl_X5_32 e18 dX5_copyFrom_32 (fun H locs hW hS => ?_)
  refine lv_aload_n hx hb dX5_copyFrom_35 rfl (lv_at hl 0 rfl) ?_
  refine lv_aload_n hx hb dX5_copyFrom_36 rfl (lv_at hl 1 rfl) ?_
  replace hm := ob hm; obtain ⟨x19, e20, hm⟩ := hm
  refine r_getI C0 hW fl_X5_36 e20 dX5_copyFrom_37 ?_
  replace hm := ob hm; obtain ⟨σ21, e22, hm⟩ := hm
  refine r_putI C0 hW hS fl_X5_36 e22 dX5_copyFrom_40 (fun H locs hW hS => ?_)
  cases hm
  exact r_vret C0 hr hlocks hW hS dX5_copyFrom_43
set_option maxHeartbeats 4000000 in
set_option maxRecDepth 100000 in
theorem w_X4_copyFrom_L29 {p : Program} {l : Launch} {e : Env} {s : State} {m : MethodId} {args : Array Value} {below : List Frame} {meth : Method} {c : Code} {D : va_G} {ca : Nat → ClassId} {A : Nat → Prop} {Q : State → Prop} (N : Nat) : ∀ (n : Nat) {σ : zS} {v0 : Nat} {v1 : Nat} {v2 : Int32} {σ' : zS} {H : Heap} {locs : List Loc} {ls : Array Slot}, m_X4_copyFrom_L29 N n σ v0 v1 v2 = some σ' → zC p s m args c RX4 cX4_copyFrom 5 D ca A → zW D ca A σ H → va_S A s.heap H locs → lv_has ls 5 [(0, .ref v0), (1, .ref v1), (2, .int v2)] → (∀ (H : Heap) (locs : List Loc) (ls : Array Slot), zW D ca A σ' H → va_S A s.heap H locs → lv_has ls 5 [] → W p l e ({ frames := 3, cells := 0, slots := 0, locals := 82 } : Room) s m args below meth c H locs 0 0 Q (F0 m 69 ls [])) → W p l e ({ frames := 3, cells := 0, slots := 0, locals := 82 } : Room) s m args below meth c H locs 0 0 Q (F0 m 29 ls []) := by
  intro n
  induction n with
  | zero =>
    intro σ v0 v1 v2 σ' H locs ls hm C0 hW hS hl kk
    rw [m_X4_copyFrom_L29] at hm
    cases hm
  | succ n ih =>
    intro σ v0 v1 v2 σ' H locs ls hm C0 hW hS hl kk
    rw [m_X4_copyFrom_L29] at hm
    have hx := C0.1
    have hb := C0.2.1
    refine lv_iload_n hx hb dX4_copyFrom_29 rfl (lv_at hl 2 rfl) ?_
    refine lv_bipush (v := 6) hx hb dX4_copyFrom_30 (by decide) ?_
    refine lv_icmp_ge (tgt := 69) hx hb dX4_copyFrom_32 (by decide) (fun h17 => ?_) (fun h17 => ?_)
    · rw [if_pos h17] at hm
      cases hm
      exact kk _ _ _ hW hS (lv_sub hl [] rfl)
    · rw [if_neg h17] at hm
      refine lv_aload_n hx hb dX4_copyFrom_35 rfl (lv_at hl 1 rfl) ?_
      refine lv_iload_n hx hb dX4_copyFrom_36 rfl (lv_at hl 2 rfl) ?_
      replace hm := ob hm; obtain ⟨u18, e19, hm⟩ := hm
      replace hm := ob hm; obtain ⟨r21, e20, hm⟩ := hm
      refine z_callq (z_runV (As := [.int v2]) (rest := []) (ci := 4) rfl rfl C0 lv_X4_36 (b_X4_find e20) hW hS e19 rfl hl.1 rfl (Nat.le_of_ble_eq_true rfl) dX4_copyFrom_37 rfl rfl ⟨Nat.le_of_ble_eq_true rfl, Nat.le_of_ble_eq_true rfl⟩ ⟨Nat.le_refl _, Nat.le_refl _⟩) hS (fun H locs hW hS => ?_)
      replace hm := oe hm; rcases hm with ⟨hn, hm⟩ | ⟨a22, hn, hm⟩
      · subst hn
        refine lv_astore_nN (lv' := [(3, .null), (0, .ref v0), (1, .ref v1), (2, .int v2)]) hx hb dX4_copyFrom_40 rfl hl (by decide) rfl (fun ls hl => ?_)
        refine lv_aload_n hx hb dX4_copyFrom_41 rfl (lv_at hl 1 rfl) ?_
        refine lv_iload_n hx hb dX4_copyFrom_42 rfl (lv_at hl 3 rfl) ?_
        replace hm := ob hm; obtain ⟨u23, e24, hm⟩ := hm
        replace hm := ob hm; obtain ⟨r26, e25, hm⟩ := hm
        refine z_callq (z_runV (As := [.int v2]) (rest := []) (ci := 4) rfl rfl C0 lv_X4_36 (b_X4_find e25) hW hS e24 rfl hl.1 rfl (Nat.le_of_ble_eq_true rfl) dX4_copyFrom_43 rfl rfl ⟨Nat.le_of_ble_eq_true rfl, Nat.le_of_ble_eq_true rfl⟩ ⟨Nat.le_refl _, Nat.le_refl _⟩) hS (fun H locs hW hS => ?_)
        replace hm := oe hm; rcases hm with ⟨hn, hm⟩ | ⟨a27, hn, hm⟩
        · subst hn
          refine lv_astoreN (lv' := [(4, .null), (3, .null), (0, .ref v0), (1, .ref v1), (2, .int v2)]) hx hb dX4_copyFrom_46 hl (by decide) rfl (fun ls hl => ?_)
          refine lv_aload_nN hx hb dX4_copyFrom_48 rfl (lv_at hl 1 rfl) ?_
          refine lv_ifnullN (tgt := 63) hx hb dX4_copyFrom_49 (by decide) ?_
          replace hm := ob hm; obtain ⟨x28, e29, hm⟩ := hm
          refine lv_iinc (v := x28) (lv' := [(2, .int x28), (4, .null), (3, .null), (0, .ref v0), (1, .ref v1)]) hx hb dX4_copyFrom_63 hl (k := 4) rfl (Option.some.inj e29) (by decide) rfl (fun ls hl => ?_)
          refine lv_goto (tgt := 29) hx hb dX4_copyFrom_66 (by decide) ?_
          exact ih hm C0 hW hS (lv_sub hl [3, 4, 0] rfl) kk
        · subst hn
          refine lv_astore (lv' := [(4, .ref a27), (3, .null), (0, .ref v0), (1, .ref v1), (2, .int v2)]) hx hb dX4_copyFrom_46 hl (by decide) rfl (fun ls hl => ?_)
          refine lv_aload_nN hx hb dX4_copyFrom_48 rfl (lv_at hl 1 rfl) ?_
          refine lv_ifnullN (tgt := 63) hx hb dX4_copyFrom_49 (by decide) ?_
          replace hm := ob hm; obtain ⟨x30, e31, hm⟩ := hm
          refine lv_iinc (v := x30) (lv' := [(2, .int x30), (4, .ref a27), (3, .null), (0, .ref v0), (1, .ref v1)]) hx hb dX4_copyFrom_63 hl (k := 4) rfl (Option.some.inj e31) (by decide) rfl (fun ls hl => ?_)
          refine lv_goto (tgt := 29) hx hb dX4_copyFrom_66 (by decide) ?_
          exact ih hm C0 hW hS (lv_sub hl [3, 4, 0] rfl) kk
      · subst hn
        refine lv_astore_n (lv' := [(3, .ref a22), (0, .ref v0), (1, .ref v1), (2, .int v2)]) hx hb dX4_copyFrom_40 rfl hl (by decide) rfl (fun ls hl => ?_)
        refine lv_aload_n hx hb dX4_copyFrom_41 rfl (lv_at hl 1 rfl) ?_
        refine lv_iload_n hx hb dX4_copyFrom_42 rfl (lv_at hl 3 rfl) ?_
        replace hm := ob hm; obtain ⟨u32, e33, hm⟩ := hm
        replace hm := ob hm; obtain ⟨r35, e34, hm⟩ := hm
        refine z_callq (z_runV (As := [.int v2]) (rest := []) (ci := 4) rfl rfl C0 lv_X4_36 (b_X4_find e34) hW hS e33 rfl hl.1 rfl (Nat.le_of_ble_eq_true rfl) dX4_copyFrom_43 rfl rfl ⟨Nat.le_of_ble_eq_true rfl, Nat.le_of_ble_eq_true rfl⟩ ⟨Nat.le_refl _, Nat.le_refl _⟩) hS (fun H locs hW hS => ?_)
        replace hm := oe hm; rcases hm with ⟨hn, hm⟩ | ⟨a36, hn, hm⟩
        · subst hn
          refine lv_astoreN (lv' := [(4, .null), (3, .ref a22), (0, .ref v0), (1, .ref v1), (2, .int v2)]) hx hb dX4_copyFrom_46 hl (by decide) rfl (fun ls hl => ?_)
          refine lv_aload_n hx hb dX4_copyFrom_48 rfl (lv_at hl 1 rfl) ?_
          refine lv_ifnull hx hb dX4_copyFrom_49 ?_
          refine lv_aloadN hx hb dX4_copyFrom_52 (lv_at hl 0 rfl) ?_
          refine lv_ifnullN (tgt := 63) hx hb dX4_copyFrom_54 (by decide) ?_
          replace hm := ob hm; obtain ⟨x37, e38, hm⟩ := hm
          refine lv_iinc (v := x37) (lv' := [(2, .int x37), (4, .null), (3, .ref a22), (0, .ref v0), (1, .ref v1)]) hx hb dX4_copyFrom_63 hl (k := 4) rfl (Option.some.inj e38) (by decide) rfl (fun ls hl => ?_)
          refine lv_goto (tgt := 29) hx hb dX4_copyFrom_66 (by decide) ?_
          exact ih hm C0 hW hS (lv_sub hl [3, 4, 0] rfl) kk
        · subst hn
          refine lv_astore (lv' := [(4, .ref a36), (3, .ref a22), (0, .ref v0), (1, .ref v1), (2, .int v2)]) hx hb dX4_copyFrom_46 hl (by decide) rfl (fun ls hl => ?_)
          refine lv_aload_n hx hb dX4_copyFrom_48 rfl (lv_at hl 1 rfl) ?_
          refine lv_ifnull hx hb dX4_copyFrom_49 ?_
          refine lv_aload hx hb dX4_copyFrom_52 (lv_at hl 0 rfl) ?_
          refine lv_ifnull hx hb dX4_copyFrom_54 ?_
          refine lv_aload hx hb dX4_copyFrom_57 (lv_at hl 0 rfl) ?_
          refine lv_aload_n hx hb dX4_copyFrom_59 rfl (lv_at hl 1 rfl) ?_
          replace hm := ob hm; obtain ⟨u39, e40, hm⟩ := hm
          replace hm := ob hm; obtain ⟨σ42, e41, hm⟩ := hm
          refine z_callv (z_runV (As := [.ref a22]) (rest := []) (ci := 5) rfl rfl C0 lv_X4_40 (b_X5_copyFrom e41) hW hS e40 rfl hl.1 rfl (Nat.le_of_ble_eq_true rfl) dX4_copyFrom_60 rfl rfl ⟨Nat.le_of_ble_eq_true rfl, Nat.le_of_ble_eq_true rfl⟩ ⟨Nat.le_refl _, Nat.le_refl _⟩) hS (fun H locs hW hS => ?_)
          replace hm := ob hm; obtain ⟨x43, e44, hm⟩ := hm
          refine lv_iinc (v := x43) (lv' := [(2, .int x43), (4, .ref a36), (3, .ref a22), (0, .ref v0), (1, .ref v1)]) hx hb dX4_copyFrom_63 hl (k := 4) rfl (Option.some.inj e44) (by decide) rfl (fun ls hl => ?_)
          refine lv_goto (tgt := 29) hx hb dX4_copyFrom_66 (by decide) ?_
          exact ih hm C0 hW hS (lv_sub hl [3, 4, 0] rfl) kk
set_option maxHeartbeats 4000000 in
set_option maxRecDepth 100000 in
theorem b_X4_copyFrom {l : Launch} {D : va_G} {ca : Nat → ClassId} {A : Nat → Prop} {N : Nat} {σ : zS} {v0 : Nat} {v1 : Nat} {σ' : zS} (hm : m_X4_copyFrom N σ v0 v1 = some σ') : Met l yX4_copyFrom (.code yX4_copyFrom cX4_copyFrom 5 none :: wsL_law) ({ frames := 3, cells := 0, slots := 0, locals := 82 } : Room) (va_Pc [.ref v0, .ref v1] (zP D ca A σ)) (zQv D ca A σ') 0 0 A := by
  refine zMk (by decide +kernel) (Nat.le_of_ble_eq_true rfl) ?_
  intro p e s m below meth c C0 hr hlocks hin hW ls hl
  have hx := C0.1
  have hb := C0.2.1
  have hS : va_S A s.heap s.heap [] := va_S.rf
  have hl : lv_has ls 5 [(0, .ref v0), (1, .ref v1)] := hl
  unfold m_X4_copyFrom at hm
  refine lv_aload_n hx hb dX4_copyFrom_0 rfl (lv_at hl 0 rfl) ?_
  refine lv_aload_n hx hb dX4_copyFrom_1 rfl (lv_at hl 1 rfl) ?_
  replace hm := ob hm; obtain ⟨x1, e2, hm⟩ := hm
  refine r_getI C0 hW fl_X4_25 e2 dX4_copyFrom_2 ?_
  replace hm := ob hm; obtain ⟨σ3, e4, hm⟩ := hm
  refine r_putI C0 hW hS fl_X4_25 e4 dX4_copyFrom_5 (fun H locs hW hS => ?_)
  refine lv_aload_n hx hb dX4_copyFrom_8 rfl (lv_at hl 0 rfl) ?_
  refine lv_aload_n hx hb dX4_copyFrom_9 rfl (lv_at hl 1 rfl) ?_
  replace hm := ob hm; obtain ⟨x5, e6, hm⟩ := hm
  refine r_getI C0 hW fl_X4_29 e6 dX4_copyFrom_10 ?_
  replace hm := ob hm; obtain ⟨σ7, e8, hm⟩ := hm
  refine r_putI C0 hW hS fl_X4_29 e8 dX4_copyFrom_13 (fun H locs hW hS => ?_)
  refine lv_aload_n hx hb dX4_copyFrom_16 rfl (lv_at hl 0 rfl) ?_
  replace hm := ob hm; obtain ⟨a9, e10, hm⟩ := hm
  refine r_getA C0 hW fl_X4_20 e10 dX4_copyFrom_17 ?_
  refine lv_aload_n hx hb dX4_copyFrom_20 rfl (lv_at hl 1 rfl) ?_
  replace hm := ob hm; obtain ⟨a11, e12, hm⟩ := hm
  refine r_getA C0 hW fl_X4_20 e12 dX4_copyFrom_21 ?_
  replace hm := ob hm; obtain ⟨u13, e14, hm⟩ := hm
  replace hm := ob hm; obtain ⟨σ16, e15, hm⟩ := hm
  refine z_callv (z_runV (As := [.ref a11]) (rest := []) (ci := 2) rfl rfl C0 lv_X4_32 (b_X2_copyFrom e15) hW hS e14 rfl hl.1 rfl (Nat.le_of_ble_eq_true rfl) dX4_copyFrom_24 rfl rfl ⟨Nat.le_of_ble_eq_true rfl, Nat.le_of_ble_eq_true rfl⟩ ⟨Nat.le_refl _, Nat.le_refl _⟩) hS (fun H locs hW hS => ?_)
  refine lv_iconst (v := 0) hx hb dX4_copyFrom_27 (by decide) ?_
  refine lv_istore_n (lv' := [(2, .int 0), (0, .ref v0), (1, .ref v1)]) hx hb dX4_copyFrom_28 rfl hl (by decide) rfl (fun ls hl => ?_)
  replace hm := ob hm; obtain ⟨σ45, e46, hm⟩ := hm
  refine w_X4_copyFrom_L29 N N e46 C0 hW hS (lv_sub hl [1, 2, 0] rfl) (fun H locs ls hW hS hl => ?_)
  cases hm
  exact r_vret C0 hr hlocks hW hS dX4_copyFrom_69
set_option maxHeartbeats 4000000 in
set_option maxRecDepth 100000 in
theorem b_X1_record {l : Launch} {D : va_G} {ca : Nat → ClassId} {A : Nat → Prop} {N : Nat} {σ : zS} {v0 : Nat} {v1 : Nat} {σ' : zS} (hm : m_X1_record N σ v0 v1 = some σ') : Met l yX1_record (.code yX1_record cX1_record 3 none :: wsL_law) ({ frames := 4, cells := 0, slots := 0, locals := 106 } : Room) (va_Pc [.ref v0, .ref v1] (zP D ca A σ)) (zQv D ca A σ') 0 0 A := by
  refine zMk (by decide +kernel) (Nat.le_of_ble_eq_true rfl) ?_
  intro p e s m below meth c C0 hr hlocks hin hW ls hl
  have hx := C0.1
  have hb := C0.2.1
  have hS : va_S A s.heap s.heap [] := va_S.rf
  have hl : lv_has ls 3 [(0, .ref v0), (1, .ref v1)] := hl
  unfold m_X1_record at hm
  refine lv_aload_n hx hb dX1_record_0 rfl (lv_at hl 0 rfl) ?_
  replace hm := ob hm; obtain ⟨x1, e2, hm⟩ := hm
  refine r_getI C0 hW fl_X1_18 e2 dX1_record_1 ?_
  refine lv_iconst (v := 4) hx hb dX1_record_4 (by decide) ?_
  replace hm := ob hm; obtain ⟨σ9, e25, hm⟩ := hm
  have J12_3 : ∀ (H : Heap) (locs : List Loc) (ls : Array Slot), zW D ca A σ9 H → va_S A s.heap H locs → lv_has ls 3 [(0, .ref v0), (1, .ref v1)] → W p l e ({ frames := 4, cells := 0, slots := 0, locals := 106 } : Room) s m (List.toArray [.ref v0, .ref v1]) below meth c H locs 0 0 (MQ below (zQv D ca A σ') (List.toArray [.ref v0, .ref v1]) s 0 0 A) (F0 m 12 ls []) := by
    intro H locs ls hW hS hl
    refine lv_aload_n hx hb dX1_record_12 rfl (lv_at hl 0 rfl) ?_
    refine lv_aload_n hx hb dX1_record_13 rfl (lv_at hl 0 rfl) ?_
    replace hm := ob hm; obtain ⟨x10, e11, hm⟩ := hm
    refine r_getI C0 hW fl_X1_18 e11 dX1_record_14 ?_
    replace hm := ob hm; obtain ⟨u12, e13, hm⟩ := hm
    replace hm := ob hm; obtain ⟨r15, e14, hm⟩ := hm
    refine z_callq (z_runV (As := [.int x10]) (rest := []) (ci := 1) rfl rfl C0 lv_X1_25 (b_X1_slotAt e14) hW hS e13 rfl hl.1 rfl (Nat.le_of_ble_eq_true rfl) dX1_record_17 rfl rfl ⟨Nat.le_of_ble_eq_true rfl, Nat.le_of_ble_eq_true rfl⟩ ⟨Nat.le_refl _, Nat.le_refl _⟩) hS (fun H locs hW hS => ?_)
    replace hm := oe hm; rcases hm with ⟨hn, hm⟩ | ⟨a16, hn, hm⟩
    · subst hn
      refine lv_astore_nN (lv' := [(2, .null), (0, .ref v0), (1, .ref v1)]) hx hb dX1_record_20 rfl hl (by decide) rfl (fun ls hl => ?_)
      refine lv_aload_nN hx hb dX1_record_21 rfl (lv_at hl 0 rfl) ?_
      refine lv_ifnullN (tgt := 40) hx hb dX1_record_22 (by decide) ?_
      cases hm
      exact r_vret C0 hr hlocks hW hS dX1_record_40
    · subst hn
      refine lv_astore_n (lv' := [(2, .ref a16), (0, .ref v0), (1, .ref v1)]) hx hb dX1_record_20 rfl hl (by decide) rfl (fun ls hl => ?_)
      refine lv_aload_n hx hb dX1_record_21 rfl (lv_at hl 0 rfl) ?_
      refine lv_ifnull hx hb dX1_record_22 ?_
      refine lv_aload_n hx hb dX1_record_25 rfl (lv_at hl 0 rfl) ?_
      refine lv_aload_n hx hb dX1_record_26 rfl (lv_at hl 2 rfl) ?_
      replace hm := ob hm; obtain ⟨u17, e18, hm⟩ := hm
      replace hm := ob hm; obtain ⟨σ20, e19, hm⟩ := hm
      refine z_callv (z_runV (As := [.ref v1]) (rest := []) (ci := 4) rfl rfl C0 lv_X1_29 (b_X4_copyFrom e19) hW hS e18 rfl hl.1 rfl (Nat.le_of_ble_eq_true rfl) dX1_record_27 rfl rfl ⟨Nat.le_of_ble_eq_true rfl, Nat.le_of_ble_eq_true rfl⟩ ⟨Nat.le_refl _, Nat.le_refl _⟩) hS (fun H locs hW hS => ?_)
      refine lv_aload_n hx hb dX1_record_30 rfl (lv_at hl 1 rfl) ?_
      refine lv_dup hx hb dX1_record_31 rfl ?_
      replace hm := ob hm; obtain ⟨x21, e22, hm⟩ := hm
      refine r_getI C0 hW fl_X1_18 e22 dX1_record_32 ?_
      refine lv_iconst (v := 1) hx hb dX1_record_35 (by decide) ?_
      refine lv_iadd hx hb dX1_record_36 ?_
      replace hm := ob hm; obtain ⟨σ23, e24, hm⟩ := hm
      refine r_putI C0 hW hS fl_X1_18 e24 dX1_record_37 (fun H locs hW hS => ?_)
      cases hm
      exact r_vret C0 hr hlocks hW hS dX1_record_40
  clear hm
  have hm := e25
  clear e25
  refine lv_icmp_lt (tgt := 12) hx hb dX1_record_5 (by decide) (fun h3 => ?_) (fun h3 => ?_)
  · rw [if_pos h3] at hm
    have hq1 := Option.some.inj hm; subst hq1
    exact J12_3 _ _ _ hW hS (lv_sub hl [0, 1] rfl)
  · rw [if_neg h3] at hm
    refine lv_aload_n hx hb dX1_record_8 rfl (lv_at hl 0 rfl) ?_
    replace hm := ob hm; obtain ⟨u5, e6, hm⟩ := hm
    replace hm := ob hm; obtain ⟨σ8, e7, hm⟩ := hm
    refine z_callv (z_runV (As := []) (rest := []) (ci := 1) rfl rfl C0 lv_X1_22 (b_X1_dropOldest e7) hW hS e6 rfl hl.1 rfl (Nat.le_of_ble_eq_true rfl) dX1_record_9 rfl rfl ⟨Nat.le_of_ble_eq_true rfl, Nat.le_of_ble_eq_true rfl⟩ ⟨Nat.le_refl _, Nat.le_refl _⟩) hS (fun H locs hW hS => ?_)
    have hq1 := Option.some.inj hm; subst hq1
    exact J12_3 _ _ _ hW hS (lv_sub hl [0, 1] rfl)
set_option maxHeartbeats 4000000 in
set_option maxRecDepth 100000 in
theorem b_X1_restore {l : Launch} {D : va_G} {ca : Nat → ClassId} {A : Nat → Prop} {N : Nat} {σ : zS} {v0 : Nat} {v1 : Nat} {σ' : zS} (hm : m_X1_restore N σ v0 v1 = some σ') : Met l yX1_restore (.code yX1_restore cX1_restore 3 none :: wsL_law) ({ frames := 4, cells := 0, slots := 0, locals := 106 } : Room) (va_Pc [.ref v0, .ref v1] (zP D ca A σ)) (zQv D ca A σ') 0 0 A := by
  refine zMk (by decide +kernel) (Nat.le_of_ble_eq_true rfl) ?_
  intro p e s m below meth c C0 hr hlocks hin hW ls hl
  have hx := C0.1
  have hb := C0.2.1
  have hS : va_S A s.heap s.heap [] := va_S.rf
  have hl : lv_has ls 3 [(0, .ref v0), (1, .ref v1)] := hl
  unfold m_X1_restore at hm
  refine lv_aload_n hx hb dX1_restore_0 rfl (lv_at hl 0 rfl) ?_
  refine lv_aload_n hx hb dX1_restore_1 rfl (lv_at hl 0 rfl) ?_
  replace hm := ob hm; obtain ⟨x1, e2, hm⟩ := hm
  refine r_getI C0 hW fl_X1_18 e2 dX1_restore_2 ?_
  refine lv_iconst (v := 1) hx hb dX1_restore_5 (by decide) ?_
  refine lv_isub hx hb dX1_restore_6 ?_
  replace hm := ob hm; obtain ⟨u3, e4, hm⟩ := hm
  replace hm := ob hm; obtain ⟨r6, e5, hm⟩ := hm
  refine z_callq (z_runV (As := [.int (x1 - 1)]) (rest := []) (ci := 1) rfl rfl C0 lv_X1_25 (b_X1_slotAt e5) hW hS e4 rfl hl.1 rfl (Nat.le_of_ble_eq_true rfl) dX1_restore_7 rfl rfl ⟨Nat.le_of_ble_eq_true rfl, Nat.le_of_ble_eq_true rfl⟩ ⟨Nat.le_refl _, Nat.le_refl _⟩) hS (fun H locs hW hS => ?_)
  replace hm := oe hm; rcases hm with ⟨hn, hm⟩ | ⟨a7, hn, hm⟩
  · subst hn
    refine lv_astore_nN (lv' := [(2, .null), (0, .ref v0), (1, .ref v1)]) hx hb dX1_restore_10 rfl hl (by decide) rfl (fun ls hl => ?_)
    refine lv_aload_nN hx hb dX1_restore_11 rfl (lv_at hl 0 rfl) ?_
    refine lv_ifnullN (tgt := 30) hx hb dX1_restore_12 (by decide) ?_
    cases hm
    exact r_vret C0 hr hlocks hW hS dX1_restore_30
  · subst hn
    refine lv_astore_n (lv' := [(2, .ref a7), (0, .ref v0), (1, .ref v1)]) hx hb dX1_restore_10 rfl hl (by decide) rfl (fun ls hl => ?_)
    refine lv_aload_n hx hb dX1_restore_11 rfl (lv_at hl 0 rfl) ?_
    refine lv_ifnull hx hb dX1_restore_12 ?_
    refine lv_aload_n hx hb dX1_restore_15 rfl (lv_at hl 2 rfl) ?_
    refine lv_aload_n hx hb dX1_restore_16 rfl (lv_at hl 0 rfl) ?_
    replace hm := ob hm; obtain ⟨u8, e9, hm⟩ := hm
    replace hm := ob hm; obtain ⟨σ11, e10, hm⟩ := hm
    refine z_callv (z_runV (As := [.ref a7]) (rest := []) (ci := 4) rfl rfl C0 lv_X1_29 (b_X4_copyFrom e10) hW hS e9 rfl hl.1 rfl (Nat.le_of_ble_eq_true rfl) dX1_restore_17 rfl rfl ⟨Nat.le_of_ble_eq_true rfl, Nat.le_of_ble_eq_true rfl⟩ ⟨Nat.le_refl _, Nat.le_refl _⟩) hS (fun H locs hW hS => ?_)
    refine lv_aload_n hx hb dX1_restore_20 rfl (lv_at hl 1 rfl) ?_
    refine lv_dup hx hb dX1_restore_21 rfl ?_
    replace hm := ob hm; obtain ⟨x12, e13, hm⟩ := hm
    refine r_getI C0 hW fl_X1_18 e13 dX1_restore_22 ?_
    refine lv_iconst (v := 1) hx hb dX1_restore_25 (by decide) ?_
    refine lv_isub hx hb dX1_restore_26 ?_
    replace hm := ob hm; obtain ⟨σ14, e15, hm⟩ := hm
    refine r_putI C0 hW hS fl_X1_18 e15 dX1_restore_27 (fun H locs hW hS => ?_)
    cases hm
    exact r_vret C0 hr hlocks hW hS dX1_restore_30
set_option maxHeartbeats 4000000 in
set_option maxRecDepth 100000 in
theorem b_X2_entry {l : Launch} {D : va_G} {ca : Nat → ClassId} {A : Nat → Prop} {N : Nat} {σ : zS} {v0 : Nat} {v1 : Int32} {v2 : Int32} {r0 : Int32} (hm : m_X2_entry N σ v0 v1 v2 = some r0) : Met l yX2_entry (.code yX2_entry cX2_entry 3 (some .int) :: wsL_law) ({ frames := 0, cells := 0, slots := 0, locals := 0 } : Room) (va_Pc [.ref v0, .int v1, .int v2] (zP D ca A σ)) (zQi r0 D ca A σ) 0 0 A := by
  refine zMk (by decide +kernel) (Nat.le_of_ble_eq_true rfl) ?_
  intro p e s m below meth c C0 hr hlocks hin hW ls hl
  have hx := C0.1
  have hb := C0.2.1
  have hS : va_S A s.heap s.heap [] := va_S.rf
  have hl : lv_has ls 3 [(0, .ref v0), (1, .int v1), (2, .int v2)] := hl
  unfold m_X2_entry at hm
  refine lv_iload_n hx hb dX2_entry_0 rfl (lv_at hl 1 rfl) ?_
  refine lv_if_lt (tgt := 18) hx hb dX2_entry_1 (by decide) (fun h1 => ?_) (fun h1 => ?_)
  · rw [if_pos h1] at hm
    refine lv_bipush (v := (-4)) hx hb dX2_entry_18 (by decide) ?_
    cases hm
    exact r_iret C0 hr hlocks hW hS dX2_entry_20
  · rw [if_neg h1] at hm
    refine lv_iload_n hx hb dX2_entry_4 rfl (lv_at hl 1 rfl) ?_
    refine lv_aload_n hx hb dX2_entry_5 rfl (lv_at hl 0 rfl) ?_
    replace hm := ob hm; obtain ⟨x2, e3, hm⟩ := hm
    refine r_getI C0 hW fl_X2_21 e3 dX2_entry_6 ?_
    refine lv_icmp_ge (tgt := 18) hx hb dX2_entry_9 (by decide) (fun h4 => ?_) (fun h4 => ?_)
    · rw [if_pos h4] at hm
      refine lv_bipush (v := (-4)) hx hb dX2_entry_18 (by decide) ?_
      cases hm
      exact r_iret C0 hr hlocks hW hS dX2_entry_20
    · rw [if_neg h4] at hm
      refine lv_iload_n hx hb dX2_entry_12 rfl (lv_at hl 1 rfl) ?_
      refine lv_bipush (v := 8) hx hb dX2_entry_13 (by decide) ?_
      refine lv_icmp_lt (tgt := 21) hx hb dX2_entry_15 (by decide) (fun h5 => ?_) (fun h5 => ?_)
      · rw [if_pos h5] at hm
        refine lv_iload_n hx hb dX2_entry_21 rfl (lv_at hl 2 rfl) ?_
        refine lv_if_ne (tgt := 32) hx hb dX2_entry_22 (by decide) (fun h6 => ?_) (fun h6 => ?_)
        · rw [if_neg h6] at hm
          refine lv_iload_n hx hb dX2_entry_32 rfl (lv_at hl 2 rfl) ?_
          refine lv_iconst (v := 1) hx hb dX2_entry_33 (by decide) ?_
          refine lv_icmp_ne (tgt := 46) hx hb dX2_entry_34 (by decide) (fun h7 => ?_) (fun h7 => ?_)
          · rw [if_neg h7] at hm
            refine lv_aload_n hx hb dX2_entry_46 rfl (lv_at hl 0 rfl) ?_
            replace hm := ob hm; obtain ⟨a8, e9, hm⟩ := hm
            refine r_getA C0 hW fl_X2_18 e9 dX2_entry_47 ?_
            refine lv_iload_n hx hb dX2_entry_50 rfl (lv_at hl 1 rfl) ?_
            replace hm := ob hm; obtain ⟨x10, e11, hm⟩ := hm
            refine r_aI C0 hW e11 dX2_entry_51 ?_
            cases hm
            exact r_iret C0 hr hlocks hW hS dX2_entry_52
          · rw [if_pos h7] at hm
            refine lv_aload_n hx hb dX2_entry_37 rfl (lv_at hl 0 rfl) ?_
            replace hm := ob hm; obtain ⟨a12, e13, hm⟩ := hm
            refine r_getA C0 hW fl_X2_15 e13 dX2_entry_38 ?_
            refine lv_iload_n hx hb dX2_entry_41 rfl (lv_at hl 1 rfl) ?_
            replace hm := ob hm; obtain ⟨x14, e15, hm⟩ := hm
            refine r_aI C0 hW e15 dX2_entry_42 ?_
            refine lv_goto (tgt := 52) hx hb dX2_entry_43 (by decide) ?_
            cases hm
            exact r_iret C0 hr hlocks hW hS dX2_entry_52
        · rw [if_pos h6] at hm
          refine lv_aload_n hx hb dX2_entry_25 rfl (lv_at hl 0 rfl) ?_
          replace hm := ob hm; obtain ⟨a16, e17, hm⟩ := hm
          refine r_getA C0 hW fl_X2_9 e17 dX2_entry_26 ?_
          refine lv_iload_n hx hb dX2_entry_29 rfl (lv_at hl 1 rfl) ?_
          replace hm := ob hm; obtain ⟨x18, e19, hm⟩ := hm
          refine r_aI C0 hW e19 dX2_entry_30 ?_
          cases hm
          exact r_iret C0 hr hlocks hW hS dX2_entry_31
      · rw [if_neg h5] at hm
        refine lv_bipush (v := (-4)) hx hb dX2_entry_18 (by decide) ?_
        cases hm
        exact r_iret C0 hr hlocks hW hS dX2_entry_20
set_option maxHeartbeats 4000000 in
set_option maxRecDepth 100000 in
theorem w_X2_write_L4 {p : Program} {l : Launch} {e : Env} {s : State} {m : MethodId} {args : Array Value} {below : List Frame} {meth : Method} {c : Code} {D : va_G} {ca : Nat → ClassId} {A : Nat → Prop} {Q : State → Prop} (N : Nat) : ∀ (n : Nat) {σ : zS} {v0 : Nat} {v1 : Int32} {v2 : Int32} {v3 : Int32} {v4 : Int32} {σ' : zS} {H : Heap} {locs : List Loc} {ls : Array Slot}, m_X2_write_L4 N n σ v0 v1 v2 v3 v4 = some σ' → zC p s m args c RX2 cX2_write 5 D ca A → zW D ca A σ H → va_S A s.heap H locs → lv_has ls 5 [(0, .ref v0), (1, .int v1), (2, .int v2), (3, .int v3), (4, .int v4)] → (∀ (H : Heap) (locs : List Loc) (ls : Array Slot), zW D ca A σ' H → va_S A s.heap H locs → lv_has ls 5 [(0, .ref v0), (1, .int v1), (2, .int v2), (3, .int v3)] → W p l e ({ frames := 1, cells := 0, slots := 0, locals := 26 } : Room) s m args below meth c H locs 0 0 Q (F0 m 63 ls [])) → W p l e ({ frames := 1, cells := 0, slots := 0, locals := 26 } : Room) s m args below meth c H locs 0 0 Q (F0 m 4 ls []) := by
  intro n
  induction n with
  | zero =>
    intro σ v0 v1 v2 v3 v4 σ' H locs ls hm C0 hW hS hl kk
    rw [m_X2_write_L4] at hm
    cases hm
  | succ n ih =>
    intro σ v0 v1 v2 v3 v4 σ' H locs ls hm C0 hW hS hl kk
    rw [m_X2_write_L4] at hm
    have hx := C0.1
    have hb := C0.2.1
    refine lv_iload hx hb dX2_write_4 (lv_at hl 4 rfl) ?_
    refine lv_if_le (tgt := 63) hx hb dX2_write_6 (by decide) (fun h1 => ?_) (fun h1 => ?_)
    · rw [if_pos h1] at hm
      cases hm
      exact kk _ _ _ hW hS (lv_sub hl [0, 1, 2, 3] rfl)
    · rw [if_neg h1] at hm
      refine lv_aload_n hx hb dX2_write_9 rfl (lv_at hl 0 rfl) ?_
      replace hm := ob hm; obtain ⟨a2, e3, hm⟩ := hm
      refine r_getA C0 hW fl_X2_9 e3 dX2_write_10 ?_
      refine lv_iload hx hb dX2_write_13 (lv_at hl 4 rfl) ?_
      refine lv_aload_n hx hb dX2_write_15 rfl (lv_at hl 0 rfl) ?_
      replace hm := ob hm; obtain ⟨a4, e5, hm⟩ := hm
      refine r_getA C0 hW fl_X2_9 e5 dX2_write_16 ?_
      refine lv_iload hx hb dX2_write_19 (lv_at hl 4 rfl) ?_
      refine lv_iconst (v := 1) hx hb dX2_write_21 (by decide) ?_
      refine lv_isub hx hb dX2_write_22 ?_
      replace hm := ob hm; obtain ⟨x6, e7, hm⟩ := hm
      refine r_aI C0 hW e7 dX2_write_23 ?_
      replace hm := ob hm; obtain ⟨σ8, e9, hm⟩ := hm
      refine r_uI C0 hW hS e9 dX2_write_24 (fun H locs hW hS => ?_)
      refine lv_aload_n hx hb dX2_write_25 rfl (lv_at hl 0 rfl) ?_
      replace hm := ob hm; obtain ⟨a10, e11, hm⟩ := hm
      refine r_getA C0 hW fl_X2_15 e11 dX2_write_26 ?_
      refine lv_iload hx hb dX2_write_29 (lv_at hl 4 rfl) ?_
      refine lv_aload_n hx hb dX2_write_31 rfl (lv_at hl 0 rfl) ?_
      replace hm := ob hm; obtain ⟨a12, e13, hm⟩ := hm
      refine r_getA C0 hW fl_X2_15 e13 dX2_write_32 ?_
      refine lv_iload hx hb dX2_write_35 (lv_at hl 4 rfl) ?_
      refine lv_iconst (v := 1) hx hb dX2_write_37 (by decide) ?_
      refine lv_isub hx hb dX2_write_38 ?_
      replace hm := ob hm; obtain ⟨x14, e15, hm⟩ := hm
      refine r_aI C0 hW e15 dX2_write_39 ?_
      replace hm := ob hm; obtain ⟨σ16, e17, hm⟩ := hm
      refine r_uI C0 hW hS e17 dX2_write_40 (fun H locs hW hS => ?_)
      refine lv_aload_n hx hb dX2_write_41 rfl (lv_at hl 0 rfl) ?_
      replace hm := ob hm; obtain ⟨a18, e19, hm⟩ := hm
      refine r_getA C0 hW fl_X2_18 e19 dX2_write_42 ?_
      refine lv_iload hx hb dX2_write_45 (lv_at hl 4 rfl) ?_
      refine lv_aload_n hx hb dX2_write_47 rfl (lv_at hl 0 rfl) ?_
      replace hm := ob hm; obtain ⟨a20, e21, hm⟩ := hm
      refine r_getA C0 hW fl_X2_18 e21 dX2_write_48 ?_
      refine lv_iload hx hb dX2_write_51 (lv_at hl 4 rfl) ?_
      refine lv_iconst (v := 1) hx hb dX2_write_53 (by decide) ?_
      refine lv_isub hx hb dX2_write_54 ?_
      replace hm := ob hm; obtain ⟨x22, e23, hm⟩ := hm
      refine r_aI C0 hW e23 dX2_write_55 ?_
      replace hm := ob hm; obtain ⟨σ24, e25, hm⟩ := hm
      refine r_uI C0 hW hS e25 dX2_write_56 (fun H locs hW hS => ?_)
      replace hm := ob hm; obtain ⟨x26, e27, hm⟩ := hm
      refine lv_iinc (v := x26) (lv' := [(4, .int x26), (0, .ref v0), (1, .int v1), (2, .int v2), (3, .int v3)]) hx hb dX2_write_57 hl (k := 4) rfl (Option.some.inj e27) (by decide) rfl (fun ls hl => ?_)
      refine lv_goto (tgt := 4) hx hb dX2_write_60 (by decide) ?_
      exact ih hm C0 hW hS (lv_sub hl [1, 2, 3, 4, 0] rfl) kk
set_option maxHeartbeats 4000000 in
set_option maxRecDepth 100000 in
theorem b_X2_write {l : Launch} {D : va_G} {ca : Nat → ClassId} {A : Nat → Prop} {N : Nat} {σ : zS} {v0 : Nat} {v1 : Int32} {v2 : Int32} {v3 : Int32} {σ' : zS} (hm : m_X2_write N σ v0 v1 v2 v3 = some σ') : Met l yX2_write (.code yX2_write cX2_write 5 none :: wsL_law) ({ frames := 1, cells := 0, slots := 0, locals := 26 } : Room) (va_Pc [.ref v0, .int v1, .int v2, .int v3] (zP D ca A σ)) (zQv D ca A σ') 0 0 A := by
  refine zMk (by decide +kernel) (Nat.le_of_ble_eq_true rfl) ?_
  intro p e s m below meth c C0 hr hlocks hin hW ls hl
  have hx := C0.1
  have hb := C0.2.1
  have hS : va_S A s.heap s.heap [] := va_S.rf
  have hl : lv_has ls 5 [(0, .ref v0), (1, .int v1), (2, .int v2), (3, .int v3)] := hl
  unfold m_X2_write at hm
  refine lv_bipush (v := 7) hx hb dX2_write_0 (by decide) ?_
  refine lv_istore (lv' := [(4, .int 7), (0, .ref v0), (1, .int v1), (2, .int v2), (3, .int v3)]) hx hb dX2_write_2 hl (by decide) rfl (fun ls hl => ?_)
  replace hm := ob hm; obtain ⟨σ28, e29, hm⟩ := hm
  refine w_X2_write_L4 N N e29 C0 hW hS (lv_sub hl [1, 2, 3, 4, 0] rfl) (fun H locs ls hW hS hl => ?_)
  refine lv_aload_n hx hb dX2_write_63 rfl (lv_at hl 0 rfl) ?_
  replace hm := ob hm; obtain ⟨a30, e31, hm⟩ := hm
  refine r_getA C0 hW fl_X2_9 e31 dX2_write_64 ?_
  refine lv_iconst (v := 0) hx hb dX2_write_67 (by decide) ?_
  refine lv_iload_n hx hb dX2_write_68 rfl (lv_at hl 1 rfl) ?_
  replace hm := ob hm; obtain ⟨σ32, e33, hm⟩ := hm
  refine r_uI C0 hW hS e33 dX2_write_69 (fun H locs hW hS => ?_)
  refine lv_aload_n hx hb dX2_write_70 rfl (lv_at hl 0 rfl) ?_
  replace hm := ob hm; obtain ⟨a34, e35, hm⟩ := hm
  refine r_getA C0 hW fl_X2_15 e35 dX2_write_71 ?_
  refine lv_iconst (v := 0) hx hb dX2_write_74 (by decide) ?_
  refine lv_iload_n hx hb dX2_write_75 rfl (lv_at hl 2 rfl) ?_
  replace hm := ob hm; obtain ⟨σ36, e37, hm⟩ := hm
  refine r_uI C0 hW hS e37 dX2_write_76 (fun H locs hW hS => ?_)
  refine lv_aload_n hx hb dX2_write_77 rfl (lv_at hl 0 rfl) ?_
  replace hm := ob hm; obtain ⟨a38, e39, hm⟩ := hm
  refine r_getA C0 hW fl_X2_18 e39 dX2_write_78 ?_
  refine lv_iconst (v := 0) hx hb dX2_write_81 (by decide) ?_
  refine lv_iload_n hx hb dX2_write_82 rfl (lv_at hl 3 rfl) ?_
  replace hm := ob hm; obtain ⟨σ40, e41, hm⟩ := hm
  refine r_uI C0 hW hS e41 dX2_write_83 (fun H locs hW hS => ?_)
  refine lv_aload_n hx hb dX2_write_84 rfl (lv_at hl 0 rfl) ?_
  refine lv_aload_n hx hb dX2_write_85 rfl (lv_at hl 0 rfl) ?_
  replace hm := ob hm; obtain ⟨x42, e43, hm⟩ := hm
  refine r_getI C0 hW fl_X2_21 e43 dX2_write_86 ?_
  refine lv_iconst (v := 1) hx hb dX2_write_89 (by decide) ?_
  refine lv_iadd hx hb dX2_write_90 ?_
  refine lv_bipush (v := 8) hx hb dX2_write_91 (by decide) ?_
  refine r_min C0 lb_X2_25 hl.1 (Nat.le_of_ble_eq_true rfl) (Nat.le_of_ble_eq_true rfl) ⟨Nat.le_refl _, Nat.le_refl _⟩ dX2_write_93 ?_
  replace hm := ob hm; obtain ⟨σ44, e45, hm⟩ := hm
  refine r_putI C0 hW hS fl_X2_21 e45 dX2_write_96 (fun H locs hW hS => ?_)
  cases hm
  exact r_vret C0 hr hlocks hW hS dX2_write_99
set_option maxHeartbeats 4000000 in
set_option maxRecDepth 100000 in
theorem b_X3_begin {l : Launch} {D : va_G} {ca : Nat → ClassId} {A : Nat → Prop} {N : Nat} {σ : zS} {v0 : Nat} {v1 : Int32} {v2 : Int32} {σ' : zS} (hm : m_X3_begin N σ v0 v1 v2 = some σ') : Met l yX3_begin (.code yX3_begin cX3_begin 3 none :: wsL_law) ({ frames := 1, cells := 0, slots := 0, locals := 23 } : Room) (va_Pc [.ref v0, .int v1, .int v2] (zP D ca A σ)) (zQv D ca A σ') 0 0 A := by
  refine zMk (by decide +kernel) (Nat.le_of_ble_eq_true rfl) ?_
  intro p e s m below meth c C0 hr hlocks hin hW ls hl
  have hx := C0.1
  have hb := C0.2.1
  have hS : va_S A s.heap s.heap [] := va_S.rf
  have hl : lv_has ls 3 [(0, .ref v0), (1, .int v1), (2, .int v2)] := hl
  unfold m_X3_begin at hm
  refine lv_aload_n hx hb dX3_begin_0 rfl (lv_at hl 0 rfl) ?_
  refine lv_iload_n hx hb dX3_begin_1 rfl (lv_at hl 1 rfl) ?_
  replace hm := ob hm; obtain ⟨σ1, e2, hm⟩ := hm
  refine r_putI C0 hW hS fl_X3_18 e2 dX3_begin_2 (fun H locs hW hS => ?_)
  refine lv_aload_n hx hb dX3_begin_5 rfl (lv_at hl 0 rfl) ?_
  refine lv_iload_n hx hb dX3_begin_6 rfl (lv_at hl 2 rfl) ?_
  replace hm := ob hm; obtain ⟨σ3, e4, hm⟩ := hm
  refine r_putI C0 hW hS fl_X3_22 e4 dX3_begin_7 (fun H locs hW hS => ?_)
  refine lv_aload_n hx hb dX3_begin_10 rfl (lv_at hl 0 rfl) ?_
  refine lv_iconst (v := 0) hx hb dX3_begin_11 (by decide) ?_
  replace hm := ob hm; obtain ⟨σ5, e6, hm⟩ := hm
  refine r_putI C0 hW hS fl_X3_25 e6 dX3_begin_12 (fun H locs hW hS => ?_)
  refine lv_aload_n hx hb dX3_begin_15 rfl (lv_at hl 0 rfl) ?_
  refine lv_iconst (v := 0) hx hb dX3_begin_16 (by decide) ?_
  replace hm := ob hm; obtain ⟨σ7, e8, hm⟩ := hm
  refine r_putI C0 hW hS fl_X3_28 e8 dX3_begin_17 (fun H locs hW hS => ?_)
  refine lv_aload_n hx hb dX3_begin_20 rfl (lv_at hl 0 rfl) ?_
  refine lv_iconst (v := 0) hx hb dX3_begin_21 (by decide) ?_
  replace hm := ob hm; obtain ⟨σ9, e10, hm⟩ := hm
  refine r_putI C0 hW hS fl_X3_31 e10 dX3_begin_22 (fun H locs hW hS => ?_)
  refine lv_aload_n hx hb dX3_begin_25 rfl (lv_at hl 0 rfl) ?_
  replace hm := ob hm; obtain ⟨a11, e12, hm⟩ := hm
  refine r_getA C0 hW fl_X3_9 e12 dX3_begin_26 ?_
  refine lv_iconst (v := 0) hx hb dX3_begin_29 (by decide) ?_
  replace hm := ob hm; obtain ⟨σ14, e13, hm⟩ := hm
  refine z_callv (z_runS (As := [.ref a11, .int 0]) (rest := []) C0 ls_X3_34 (b_J7_fill_53178 e13) hW hS rfl hl.1 rfl (Nat.le_of_ble_eq_true rfl) dX3_begin_30 rfl rfl ⟨Nat.le_of_ble_eq_true rfl, Nat.le_of_ble_eq_true rfl⟩ ⟨Nat.le_refl _, Nat.le_refl _⟩) hS (fun H locs hW hS => ?_)
  refine lv_aload_n hx hb dX3_begin_33 rfl (lv_at hl 0 rfl) ?_
  replace hm := ob hm; obtain ⟨a15, e16, hm⟩ := hm
  refine r_getA C0 hW fl_X3_15 e16 dX3_begin_34 ?_
  refine lv_iconst (v := 0) hx hb dX3_begin_37 (by decide) ?_
  replace hm := ob hm; obtain ⟨σ18, e17, hm⟩ := hm
  refine z_callv (z_runS (As := [.ref a15, .int 0]) (rest := []) C0 ls_X3_34 (b_J7_fill_53178 e17) hW hS rfl hl.1 rfl (Nat.le_of_ble_eq_true rfl) dX3_begin_38 rfl rfl ⟨Nat.le_of_ble_eq_true rfl, Nat.le_of_ble_eq_true rfl⟩ ⟨Nat.le_refl _, Nat.le_refl _⟩) hS (fun H locs hW hS => ?_)
  cases hm
  exact r_vret C0 hr hlocks hW hS dX3_begin_41
set_option maxHeartbeats 4000000 in
set_option maxRecDepth 100000 in
theorem b_X3_bitOf {l : Launch} {D : va_G} {ca : Nat → ClassId} {A : Nat → Prop} {N : Nat} {σ : zS} {v0 : Nat} {v1 : Int32} {r0 : Int32} (hm : m_X3_bitOf N σ v0 v1 = some r0) : Met l yX3_bitOf (.code yX3_bitOf cX3_bitOf 2 (some .int) :: wsL_law) ({ frames := 0, cells := 0, slots := 0, locals := 0 } : Room) (va_Pc [.ref v0, .int v1] (zP D ca A σ)) (zQi r0 D ca A σ) 0 0 A := by
  refine zMk (by decide +kernel) (Nat.le_of_ble_eq_true rfl) ?_
  intro p e s m below meth c C0 hr hlocks hin hW ls hl
  have hx := C0.1
  have hb := C0.2.1
  have hS : va_S A s.heap s.heap [] := va_S.rf
  have hl : lv_has ls 2 [(0, .ref v0), (1, .int v1)] := hl
  unfold m_X3_bitOf at hm
  refine lv_iconst (v := 1) hx hb dX3_bitOf_0 (by decide) ?_
  refine lv_iload_n hx hb dX3_bitOf_1 rfl (lv_at hl 1 rfl) ?_
  refine lv_sipush (v := 2048) hx hb dX3_bitOf_2 (by decide) ?_
  refine lv_idiv hx hb dX3_bitOf_5 (by decide) ?_
  refine lv_bipush (v := 31) hx hb dX3_bitOf_6 (by decide) ?_
  refine lv_iand hx hb dX3_bitOf_8 ?_
  refine lv_ishl hx hb dX3_bitOf_9 ?_
  cases hm
  exact r_iret C0 hr hlocks hW hS dX3_bitOf_10
set_option maxHeartbeats 4000000 in
set_option maxRecDepth 100000 in
theorem w_X3_filledRegisters_L13 {p : Program} {l : Launch} {e : Env} {s : State} {m : MethodId} {args : Array Value} {below : List Frame} {meth : Method} {c : Code} {D : va_G} {ca : Nat → ClassId} {A : Nat → Prop} {Q : State → Prop} (N : Nat) : ∀ (n : Nat) {σ : zS} {v1 : Int32} {v2 : Nat} {v3 : Int32} {v4 : Int32} {y1 : Int32} {H : Heap} {locs : List Loc} {ls : Array Slot}, m_X3_filledRegisters_L13 N n σ v1 v2 v3 v4 = some y1 → zC p s m args c RX3 cX3_filledRegisters 6 D ca A → zW D ca A σ H → va_S A s.heap H locs → lv_has ls 6 [(1, .int v1), (2, .ref v2), (3, .int v3), (4, .int v4)] → (∀ (H : Heap) (locs : List Loc) (ls : Array Slot), zW D ca A σ H → va_S A s.heap H locs → lv_has ls 6 [(1, .int y1)] → W p l e ({ frames := 0, cells := 0, slots := 0, locals := 0 } : Room) s m args below meth c H locs 0 0 Q (F0 m 39 ls [])) → W p l e ({ frames := 0, cells := 0, slots := 0, locals := 0 } : Room) s m args below meth c H locs 0 0 Q (F0 m 13 ls []) := by
  intro n
  induction n with
  | zero =>
    intro σ v1 v2 v3 v4 y1 H locs ls hm C0 hW hS hl kk
    rw [m_X3_filledRegisters_L13] at hm
    cases hm
  | succ n ih =>
    intro σ v1 v2 v3 v4 y1 H locs ls hm C0 hW hS hl kk
    rw [m_X3_filledRegisters_L13] at hm
    have hx := C0.1
    have hb := C0.2.1
    refine lv_iload hx hb dX3_filledRegisters_13 (lv_at hl 3 rfl) ?_
    refine lv_iload_n hx hb dX3_filledRegisters_15 rfl (lv_at hl 2 rfl) ?_
    refine lv_icmp_ge (tgt := 39) hx hb dX3_filledRegisters_16 (by decide) (fun h5 => ?_) (fun h5 => ?_)
    · rw [if_pos h5] at hm
      cases hm
      exact kk _ _ _ hW hS (lv_sub hl [0] rfl)
    · rw [if_neg h5] at hm
      refine lv_aload_n hx hb dX3_filledRegisters_19 rfl (lv_at hl 1 rfl) ?_
      refine lv_iload hx hb dX3_filledRegisters_20 (lv_at hl 3 rfl) ?_
      replace hm := ob hm; obtain ⟨x6, e7, hm⟩ := hm
      refine r_aI C0 hW e7 dX3_filledRegisters_22 ?_
      refine lv_istore (lv' := [(5, .int x6), (1, .int v1), (2, .ref v2), (3, .int v3), (4, .int v4)]) hx hb dX3_filledRegisters_23 hl (by decide) rfl (fun ls hl => ?_)
      refine lv_iload hx hb dX3_filledRegisters_25 (lv_at hl 0 rfl) ?_
      replace hm := ob hm; obtain ⟨y12, e15, hm⟩ := hm
      have J33_8 : ∀ (H : Heap) (locs : List Loc) (ls : Array Slot), zW D ca A σ H → va_S A s.heap H locs → lv_has ls 6 [(2, .ref v2), (3, .int v3), (4, .int v4), (1, .int y12)] → W p l e ({ frames := 0, cells := 0, slots := 0, locals := 0 } : Room) s m args below meth c H locs 0 0 Q (F0 m 33 ls []) := by
        intro H locs ls hW hS hl
        replace hm := ob hm; obtain ⟨x13, e14, hm⟩ := hm
        refine lv_iinc (v := x13) (lv' := [(4, .int x13), (2, .ref v2), (3, .int v3), (1, .int y12)]) hx hb dX3_filledRegisters_33 hl (k := 2) rfl (Option.some.inj e14) (by decide) rfl (fun ls hl => ?_)
        refine lv_goto (tgt := 13) hx hb dX3_filledRegisters_36 (by decide) ?_
        exact ih hm C0 hW hS (lv_sub hl [3, 1, 2, 0] rfl) kk
      clear hm
      have hm := e15
      clear e15
      refine lv_if_le (tgt := 33) hx hb dX3_filledRegisters_27 (by decide) (fun h8 => ?_) (fun h8 => ?_)
      · rw [if_pos h8] at hm
        have hq1 := Option.some.inj hm; subst hq1
        exact J33_8 _ _ _ hW hS (lv_sub hl [2, 3, 4, 1] rfl)
      · rw [if_neg h8] at hm
        replace hm := ob hm; obtain ⟨x10, e11, hm⟩ := hm
        refine lv_iinc (v := x10) (lv' := [(1, .int x10), (5, .int x6), (2, .ref v2), (3, .int v3), (4, .int v4)]) hx hb dX3_filledRegisters_30 hl (k := 1) rfl (Option.some.inj e11) (by decide) rfl (fun ls hl => ?_)
        have hq1 := Option.some.inj hm; subst hq1
        exact J33_8 _ _ _ hW hS (lv_sub hl [2, 3, 4, 0] rfl)
set_option maxHeartbeats 4000000 in
set_option maxRecDepth 100000 in
theorem b_X3_filledRegisters {l : Launch} {D : va_G} {ca : Nat → ClassId} {A : Nat → Prop} {N : Nat} {σ : zS} {v0 : Nat} {r0 : Int32} (hm : m_X3_filledRegisters N σ v0 = some r0) : Met l yX3_filledRegisters (.code yX3_filledRegisters cX3_filledRegisters 6 (some .int) :: wsL_law) ({ frames := 0, cells := 0, slots := 0, locals := 0 } : Room) (va_Pc [.ref v0] (zP D ca A σ)) (zQi r0 D ca A σ) 0 0 A := by
  refine zMk (by decide +kernel) (Nat.le_of_ble_eq_true rfl) ?_
  intro p e s m below meth c C0 hr hlocks hin hW ls hl
  have hx := C0.1
  have hb := C0.2.1
  have hS : va_S A s.heap s.heap [] := va_S.rf
  have hl : lv_has ls 6 [(0, .ref v0)] := hl
  unfold m_X3_filledRegisters at hm
  refine lv_iconst (v := 0) hx hb dX3_filledRegisters_0 (by decide) ?_
  refine lv_istore_n (lv' := [(1, .int 0), (0, .ref v0)]) hx hb dX3_filledRegisters_1 rfl hl (by decide) rfl (fun ls hl => ?_)
  refine lv_aload_n hx hb dX3_filledRegisters_2 rfl (lv_at hl 1 rfl) ?_
  replace hm := ob hm; obtain ⟨a1, e2, hm⟩ := hm
  refine r_getA C0 hW fl_X3_15 e2 dX3_filledRegisters_3 ?_
  refine lv_astore_n (lv' := [(2, .ref a1), (1, .int 0), (0, .ref v0)]) hx hb dX3_filledRegisters_6 rfl hl (by decide) rfl (fun ls hl => ?_)
  refine lv_aload_n hx hb dX3_filledRegisters_7 rfl (lv_at hl 0 rfl) ?_
  replace hm := ob hm; obtain ⟨x3, e4, hm⟩ := hm
  refine r_aL (kd := 1) rfl C0 hW e4 dX3_filledRegisters_8 ?_
  refine lv_istore_n (lv' := [(3, .int x3), (2, .ref a1), (1, .int 0), (0, .ref v0)]) hx hb dX3_filledRegisters_9 rfl hl (by decide) rfl (fun ls hl => ?_)
  refine lv_iconst (v := 0) hx hb dX3_filledRegisters_10 (by decide) ?_
  refine lv_istore (lv' := [(4, .int 0), (3, .int x3), (2, .ref a1), (1, .int 0), (0, .ref v0)]) hx hb dX3_filledRegisters_11 hl (by decide) rfl (fun ls hl => ?_)
  replace hm := ob hm; obtain ⟨y16, e17, hm⟩ := hm
  refine w_X3_filledRegisters_L13 N N e17 C0 hW hS (lv_sub hl [3, 2, 1, 0] rfl) (fun H locs ls hW hS hl => ?_)
  refine lv_iload_n hx hb dX3_filledRegisters_39 rfl (lv_at hl 0 rfl) ?_
  cases hm
  exact r_iret C0 hr hlocks hW hS dX3_filledRegisters_40
