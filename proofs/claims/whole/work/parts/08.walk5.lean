set_option maxHeartbeats 4000000 in
set_option maxRecDepth 100000 in
theorem b_X9_ends {l : Launch} {D : va_G} {ca : Nat → ClassId} {A : Nat → Prop} {N : Nat} {σ : zS} {v0 : Nat} {v1 : Int32} {r0 : Int32} {σ' : zS} (hm : m_X9_ends N σ v0 v1 = some (r0, σ')) : Met l yX9_ends (.code yX9_ends cX9_ends 3 (some .int) :: wsL_law) ({ frames := 3, cells := 0, slots := 0, locals := 63 } : Room) (va_Pc [.ref v0, .int v1] (zP D ca A σ)) (zQi r0 D ca A σ') 0 0 A := by
  refine zMk (by decide +kernel) (Nat.le_of_ble_eq_true rfl) ?_
  intro p e s m below meth c C0 hr hlocks hin hW ls hl
  have hx := C0.1
  have hb := C0.2.1
  have hS : va_S A s.heap s.heap [] := va_S.rf
  have hl : lv_has ls 3 [(0, .ref v0), (1, .int v1)] := hl
  unfold m_X9_ends at hm
  refine lv_iload_n hx hb dX9_ends_0 rfl (lv_at hl 1 rfl) ?_
  refine lv_if_ge (tgt := 17) hx hb dX9_ends_1 (by decide) (fun h1 => ?_) (fun h1 => ?_)
  · rw [if_pos h1] at hm
    refine lv_iload_n hx hb dX9_ends_17 rfl (lv_at hl 1 rfl) ?_
    refine lv_istore_n (lv' := [(2, .int v1), (0, .ref v0), (1, .int v1)]) hx hb dX9_ends_18 rfl hl (by decide) rfl (fun ls hl => ?_)
    refine lv_aload_n hx hb dX9_ends_19 rfl (lv_at hl 1 rfl) ?_
    replace hm := ob hm; obtain ⟨u2, e3, hm⟩ := hm
    replace hm := ob hm; obtain ⟨σ5, e4, hm⟩ := hm
    refine z_callv (z_runV (As := []) (rest := []) (ci := 9) rfl rfl C0 lv_X9_135 (b_X9_swap e4) hW hS e3 rfl hl.1 rfl (Nat.le_of_ble_eq_true rfl) dX9_ends_20 rfl rfl ⟨Nat.le_of_ble_eq_true rfl, Nat.le_of_ble_eq_true rfl⟩ ⟨Nat.le_refl _, Nat.le_refl _⟩) hS (fun H locs hW hS => ?_)
    refine lv_aload_n hx hb dX9_ends_23 rfl (lv_at hl 1 rfl) ?_
    replace hm := ob hm; obtain ⟨u6, e7, hm⟩ := hm
    replace hm := ob hm; obtain ⟨σ9, e8, hm⟩ := hm
    refine z_callv (z_runV (As := []) (rest := []) (ci := 9) rfl rfl C0 lv_X9_138 (b_X9_records e8) hW hS e7 rfl hl.1 rfl (Nat.le_of_ble_eq_true rfl) dX9_ends_24 rfl rfl ⟨Nat.le_of_ble_eq_true rfl, Nat.le_of_ble_eq_true rfl⟩ ⟨Nat.le_refl _, Nat.le_refl _⟩) hS (fun H locs hW hS => ?_)
    refine lv_aload_n hx hb dX9_ends_27 rfl (lv_at hl 1 rfl) ?_
    replace hm := ob hm; obtain ⟨u10, e11, hm⟩ := hm
    replace hm := ob hm; obtain ⟨σ13, e12, hm⟩ := hm
    refine z_callv (z_runV (As := []) (rest := []) (ci := 9) rfl rfl C0 lv_X9_135 (b_X9_swap e12) hW hS e11 rfl hl.1 rfl (Nat.le_of_ble_eq_true rfl) dX9_ends_28 rfl rfl ⟨Nat.le_of_ble_eq_true rfl, Nat.le_of_ble_eq_true rfl⟩ ⟨Nat.le_refl _, Nat.le_refl _⟩) hS (fun H locs hW hS => ?_)
    refine lv_iload_n hx hb dX9_ends_31 rfl (lv_at hl 0 rfl) ?_
    obtain ⟨hq8, hq9⟩ := Prod.mk.inj (Option.some.inj hm); subst hq8; subst hq9
    exact r_iret C0 hr hlocks hW hS dX9_ends_32
  · rw [if_neg h1] at hm
    refine lv_aload_n hx hb dX9_ends_4 rfl (lv_at hl 0 rfl) ?_
    replace hm := ob hm; obtain ⟨a14, e15, hm⟩ := hm
    refine r_getA C0 hW fl_X9_13 e15 dX9_ends_5 ?_
    refine lv_aload_n hx hb dX9_ends_8 rfl (lv_at hl 0 rfl) ?_
    replace hm := ob hm; obtain ⟨a16, e17, hm⟩ := hm
    refine r_getA C0 hW fl_X9_7 e17 dX9_ends_9 ?_
    replace hm := ob hm; obtain ⟨σ19, e18, hm⟩ := hm
    refine z_callv (z_runS (As := [.ref a14, .ref a16]) (rest := []) C0 ls_X9_34 (b_X9_copy e18) hW hS rfl hl.1 rfl (Nat.le_of_ble_eq_true rfl) dX9_ends_12 rfl rfl ⟨Nat.le_of_ble_eq_true rfl, Nat.le_of_ble_eq_true rfl⟩ ⟨Nat.le_refl _, Nat.le_refl _⟩) hS (fun H locs hW hS => ?_)
    refine lv_iload_n hx hb dX9_ends_15 rfl (lv_at hl 1 rfl) ?_
    obtain ⟨hq8, hq9⟩ := Prod.mk.inj (Option.some.inj hm); subst hq8; subst hq9
    exact r_iret C0 hr hlocks hW hS dX9_ends_16
set_option maxHeartbeats 4000000 in
set_option maxRecDepth 100000 in
theorem b_X9_add {l : Launch} {D : va_G} {ca : Nat → ClassId} {A : Nat → Prop} {N : Nat} {σ : zS} {v0 : Nat} {v1 : Int32} {v2 : Int32} {r0 : Int32} {σ' : zS} (hm : m_X9_add N σ v0 v1 v2 = some (r0, σ')) : Met l yX9_add (.code yX9_add cX9_add 3 (some .int) :: wsL_law) ({ frames := 6, cells := 0, slots := 0, locals := 139 } : Room) (va_Pc [.ref v0, .int v1, .int v2] (zP D ca A σ)) (zQi r0 D ca A σ') 0 0 A := by
  refine zMk (by decide +kernel) (Nat.le_of_ble_eq_true rfl) ?_
  intro p e s m below meth c C0 hr hlocks hin hW ls hl
  have hx := C0.1
  have hb := C0.2.1
  have hS : va_S A s.heap s.heap [] := va_S.rf
  have hl : lv_has ls 3 [(0, .ref v0), (1, .int v1), (2, .int v2)] := hl
  unfold m_X9_add at hm
  refine lv_aload_n hx hb dX9_add_0 rfl (lv_at hl 0 rfl) ?_
  replace hm := ob hm; obtain ⟨a1, e2, hm⟩ := hm
  refine r_getA C0 hW fl_X9_7 e2 dX9_add_1 ?_
  refine lv_aload_n hx hb dX9_add_4 rfl (lv_at hl 0 rfl) ?_
  replace hm := ob hm; obtain ⟨a3, e4, hm⟩ := hm
  refine r_getA C0 hW fl_X9_13 e4 dX9_add_5 ?_
  replace hm := ob hm; obtain ⟨σ6, e5, hm⟩ := hm
  refine z_callv (z_runS (As := [.ref a1, .ref a3]) (rest := []) C0 ls_X9_34 (b_X9_copy e5) hW hS rfl hl.1 rfl (Nat.le_of_ble_eq_true rfl) dX9_add_8 rfl rfl ⟨Nat.le_of_ble_eq_true rfl, Nat.le_of_ble_eq_true rfl⟩ ⟨Nat.le_refl _, Nat.le_refl _⟩) hS (fun H locs hW hS => ?_)
  refine lv_aload_n hx hb dX9_add_11 rfl (lv_at hl 0 rfl) ?_
  refine lv_aload_n hx hb dX9_add_12 rfl (lv_at hl 0 rfl) ?_
  refine lv_iload_n hx hb dX9_add_13 rfl (lv_at hl 1 rfl) ?_
  refine lv_iload_n hx hb dX9_add_14 rfl (lv_at hl 2 rfl) ?_
  refine lv_iconst (v := 0) hx hb dX9_add_15 (by decide) ?_
  refine lv_iconst (v := 1) hx hb dX9_add_16 (by decide) ?_
  replace hm := ob hm; obtain ⟨u7, e8, hm⟩ := hm
  replace hm := o2 hm; obtain ⟨x11, σ10, e9, hm⟩ := hm
  refine z_calli (z_runV (As := [.int v1, .int v2, .int 0, .int 1]) (rest := [.ref v0]) (ci := 9) rfl rfl C0 lv_X9_147 (b_X9_seesRow e9) hW hS e8 rfl hl.1 rfl (Nat.le_of_ble_eq_true rfl) dX9_add_17 rfl rfl ⟨Nat.le_of_ble_eq_true rfl, Nat.le_of_ble_eq_true rfl⟩ ⟨Nat.le_refl _, Nat.le_refl _⟩) hS (fun H locs hW hS => ?_)
  replace hm := ob hm; obtain ⟨u12, e13, hm⟩ := hm
  replace hm := o2 hm; obtain ⟨x16, σ15, e14, hm⟩ := hm
  refine z_calli (z_runV (As := [.int x11]) (rest := []) (ci := 9) rfl rfl C0 lv_X9_144 (b_X9_ends e14) hW hS e13 rfl hl.1 rfl (Nat.le_of_ble_eq_true rfl) dX9_add_20 rfl rfl ⟨Nat.le_of_ble_eq_true rfl, Nat.le_of_ble_eq_true rfl⟩ ⟨Nat.le_refl _, Nat.le_refl _⟩) hS (fun H locs hW hS => ?_)
  obtain ⟨hq8, hq9⟩ := Prod.mk.inj (Option.some.inj hm); subst hq8; subst hq9
  exact r_iret C0 hr hlocks hW hS dX9_add_23
set_option maxHeartbeats 4000000 in
set_option maxRecDepth 100000 in
theorem b_X9_addRow {l : Launch} {D : va_G} {ca : Nat → ClassId} {A : Nat → Prop} {N : Nat} {σ : zS} {v0 : Nat} {v1 : Int32} {v2 : Int32} {v3 : Int32} {v4 : Int32} {r0 : Int32} {σ' : zS} (hm : m_X9_addRow N σ v0 v1 v2 v3 v4 = some (r0, σ')) : Met l yX9_addRow (.code yX9_addRow cX9_addRow 5 (some .int) :: wsL_law) ({ frames := 6, cells := 0, slots := 0, locals := 139 } : Room) (va_Pc [.ref v0, .int v1, .int v2, .int v3, .int v4] (zP D ca A σ)) (zQi r0 D ca A σ') 0 0 A := by
  refine zMk (by decide +kernel) (Nat.le_of_ble_eq_true rfl) ?_
  intro p e s m below meth c C0 hr hlocks hin hW ls hl
  have hx := C0.1
  have hb := C0.2.1
  have hS : va_S A s.heap s.heap [] := va_S.rf
  have hl : lv_has ls 5 [(0, .ref v0), (1, .int v1), (2, .int v2), (3, .int v3), (4, .int v4)] := hl
  unfold m_X9_addRow at hm
  refine lv_aload_n hx hb dX9_addRow_0 rfl (lv_at hl 0 rfl) ?_
  replace hm := ob hm; obtain ⟨a1, e2, hm⟩ := hm
  refine r_getA C0 hW fl_X9_7 e2 dX9_addRow_1 ?_
  refine lv_aload_n hx hb dX9_addRow_4 rfl (lv_at hl 0 rfl) ?_
  replace hm := ob hm; obtain ⟨a3, e4, hm⟩ := hm
  refine r_getA C0 hW fl_X9_13 e4 dX9_addRow_5 ?_
  replace hm := ob hm; obtain ⟨σ6, e5, hm⟩ := hm
  refine z_callv (z_runS (As := [.ref a1, .ref a3]) (rest := []) C0 ls_X9_34 (b_X9_copy e5) hW hS rfl hl.1 rfl (Nat.le_of_ble_eq_true rfl) dX9_addRow_8 rfl rfl ⟨Nat.le_of_ble_eq_true rfl, Nat.le_of_ble_eq_true rfl⟩ ⟨Nat.le_refl _, Nat.le_refl _⟩) hS (fun H locs hW hS => ?_)
  refine lv_aload_n hx hb dX9_addRow_11 rfl (lv_at hl 0 rfl) ?_
  refine lv_aload_n hx hb dX9_addRow_12 rfl (lv_at hl 0 rfl) ?_
  refine lv_iload_n hx hb dX9_addRow_13 rfl (lv_at hl 1 rfl) ?_
  refine lv_iload_n hx hb dX9_addRow_14 rfl (lv_at hl 2 rfl) ?_
  refine lv_iload_n hx hb dX9_addRow_15 rfl (lv_at hl 3 rfl) ?_
  refine lv_iload hx hb dX9_addRow_16 (lv_at hl 4 rfl) ?_
  replace hm := ob hm; obtain ⟨u7, e8, hm⟩ := hm
  replace hm := o2 hm; obtain ⟨x11, σ10, e9, hm⟩ := hm
  refine z_calli (z_runV (As := [.int v1, .int v2, .int v3, .int v4]) (rest := [.ref v0]) (ci := 9) rfl rfl C0 lv_X9_147 (b_X9_seesRow e9) hW hS e8 rfl hl.1 rfl (Nat.le_of_ble_eq_true rfl) dX9_addRow_18 rfl rfl ⟨Nat.le_of_ble_eq_true rfl, Nat.le_of_ble_eq_true rfl⟩ ⟨Nat.le_refl _, Nat.le_refl _⟩) hS (fun H locs hW hS => ?_)
  replace hm := ob hm; obtain ⟨u12, e13, hm⟩ := hm
  replace hm := o2 hm; obtain ⟨x16, σ15, e14, hm⟩ := hm
  refine z_calli (z_runV (As := [.int x11]) (rest := []) (ci := 9) rfl rfl C0 lv_X9_144 (b_X9_ends e14) hW hS e13 rfl hl.1 rfl (Nat.le_of_ble_eq_true rfl) dX9_addRow_21 rfl rfl ⟨Nat.le_of_ble_eq_true rfl, Nat.le_of_ble_eq_true rfl⟩ ⟨Nat.le_refl _, Nat.le_refl _⟩) hS (fun H locs hW hS => ?_)
  obtain ⟨hq8, hq9⟩ := Prod.mk.inj (Option.some.inj hm); subst hq8; subst hq9
  exact r_iret C0 hr hlocks hW hS dX9_addRow_24
set_option maxHeartbeats 4000000 in
set_option maxRecDepth 100000 in
theorem b_X9_exact {l : Launch} {D : va_G} {ca : Nat → ClassId} {A : Nat → Prop} {N : Nat} {σ : zS} {v0 : Nat} {v1 : Int32} {r0 : Int32} (hm : m_X9_exact N σ v0 v1 = some r0) : Met l yX9_exact (.code yX9_exact cX9_exact 2 (some .int) :: wsL_law) ({ frames := 0, cells := 0, slots := 0, locals := 0 } : Room) (va_Pc [.ref v0, .int v1] (zP D ca A σ)) (zQi r0 D ca A σ) 0 0 A := by
  refine zMk (by decide +kernel) (Nat.le_of_ble_eq_true rfl) ?_
  intro p e s m below meth c C0 hr hlocks hin hW ls hl
  have hx := C0.1
  have hb := C0.2.1
  have hS : va_S A s.heap s.heap [] := va_S.rf
  have hl : lv_has ls 2 [(0, .ref v0), (1, .int v1)] := hl
  unfold m_X9_exact at hm
  refine lv_aload_n hx hb dX9_exact_0 rfl (lv_at hl 0 rfl) ?_
  replace hm := ob hm; obtain ⟨a1, e2, hm⟩ := hm
  refine r_getA C0 hW fl_X9_7 e2 dX9_exact_1 ?_
  refine lv_bipush (v := 23) hx hb dX9_exact_4 (by decide) ?_
  refine lv_iload_n hx hb dX9_exact_6 rfl (lv_at hl 1 rfl) ?_
  refine lv_imul hx hb dX9_exact_7 ?_
  refine lv_bipush (v := 22) hx hb dX9_exact_8 (by decide) ?_
  refine lv_iadd hx hb dX9_exact_10 ?_
  replace hm := ob hm; obtain ⟨x3, e4, hm⟩ := hm
  refine r_aI C0 hW e4 dX9_exact_11 ?_
  cases hm
  exact r_iret C0 hr hlocks hW hS dX9_exact_12
set_option maxHeartbeats 4000000 in
set_option maxRecDepth 100000 in
theorem b_X9_error {l : Launch} {D : va_G} {ca : Nat → ClassId} {A : Nat → Prop} {N : Nat} {σ : zS} {v0 : Nat} {v1 : Int32} {r0 : Int32} (hm : m_X9_error N σ v0 v1 = some r0) : Met l yX9_error (.code yX9_error cX9_error 2 (some .int) :: wsL_law) ({ frames := 5, cells := 0, slots := 0, locals := 113 } : Room) (va_Pc [.ref v0, .int v1] (zP D ca A σ)) (zQi r0 D ca A σ) 0 0 A := by
  refine zMk (by decide +kernel) (Nat.le_of_ble_eq_true rfl) ?_
  intro p e s m below meth c C0 hr hlocks hin hW ls hl
  have hx := C0.1
  have hb := C0.2.1
  have hS : va_S A s.heap s.heap [] := va_S.rf
  have hl : lv_has ls 2 [(0, .ref v0), (1, .int v1)] := hl
  unfold m_X9_error at hm
  refine lv_aload_n hx hb dX9_error_0 rfl (lv_at hl 0 rfl) ?_
  refine lv_iload_n hx hb dX9_error_1 rfl (lv_at hl 1 rfl) ?_
  replace hm := ob hm; obtain ⟨u1, e2, hm⟩ := hm
  replace hm := ob hm; obtain ⟨x4, e3, hm⟩ := hm
  refine z_calli (z_runV (As := [.int v1]) (rest := []) (ci := 9) rfl rfl C0 lv_X9_95 (b_X9_toldOf e3) hW hS e2 rfl hl.1 rfl (Nat.le_of_ble_eq_true rfl) dX9_error_2 rfl rfl ⟨Nat.le_of_ble_eq_true rfl, Nat.le_of_ble_eq_true rfl⟩ ⟨Nat.le_refl _, Nat.le_refl _⟩) hS (fun H locs hW hS => ?_)
  refine lv_aload_n hx hb dX9_error_5 rfl (lv_at hl 0 rfl) ?_
  refine lv_iload_n hx hb dX9_error_6 rfl (lv_at hl 1 rfl) ?_
  replace hm := ob hm; obtain ⟨u5, e6, hm⟩ := hm
  replace hm := ob hm; obtain ⟨x8, e7, hm⟩ := hm
  refine z_calli (z_runV (As := [.int v1]) (rest := [.int x4]) (ci := 9) rfl rfl C0 lv_X9_98 (b_X9_exact e7) hW hS e6 rfl hl.1 rfl (Nat.le_of_ble_eq_true rfl) dX9_error_7 rfl rfl ⟨Nat.le_of_ble_eq_true rfl, Nat.le_of_ble_eq_true rfl⟩ ⟨Nat.le_refl _, Nat.le_refl _⟩) hS (fun H locs hW hS => ?_)
  refine lv_isub hx hb dX9_error_10 ?_
  cases hm
  exact r_iret C0 hr hlocks hW hS dX9_error_11
set_option maxHeartbeats 4000000 in
set_option maxRecDepth 100000 in
theorem b_X9_amount {l : Launch} {D : va_G} {ca : Nat → ClassId} {A : Nat → Prop} {N : Nat} {σ : zS} {v0 : Nat} {v1 : Int32} {r0 : Int32} (hm : m_X9_amount N σ v0 v1 = some r0) : Met l yX9_amount (.code yX9_amount cX9_amount 3 (some .int) :: wsL_law) ({ frames := 6, cells := 0, slots := 0, locals := 134 } : Room) (va_Pc [.ref v0, .int v1] (zP D ca A σ)) (zQi r0 D ca A σ) 0 0 A := by
  refine zMk (by decide +kernel) (Nat.le_of_ble_eq_true rfl) ?_
  intro p e s m below meth c C0 hr hlocks hin hW ls hl
  have hx := C0.1
  have hb := C0.2.1
  have hS : va_S A s.heap s.heap [] := va_S.rf
  have hl : lv_has ls 3 [(0, .ref v0), (1, .int v1)] := hl
  unfold m_X9_amount at hm
  refine lv_aload_n hx hb dX9_amount_0 rfl (lv_at hl 0 rfl) ?_
  refine lv_iload_n hx hb dX9_amount_1 rfl (lv_at hl 1 rfl) ?_
  replace hm := ob hm; obtain ⟨u1, e2, hm⟩ := hm
  replace hm := ob hm; obtain ⟨x4, e3, hm⟩ := hm
  refine z_calli (z_runV (As := [.int v1]) (rest := []) (ci := 9) rfl rfl C0 lv_X9_157 (b_X9_error e3) hW hS e2 rfl hl.1 rfl (Nat.le_of_ble_eq_true rfl) dX9_amount_2 rfl rfl ⟨Nat.le_of_ble_eq_true rfl, Nat.le_of_ble_eq_true rfl⟩ ⟨Nat.le_refl _, Nat.le_refl _⟩) hS (fun H locs hW hS => ?_)
  refine lv_istore_n (lv' := [(2, .int x4), (0, .ref v0), (1, .int v1)]) hx hb dX9_amount_5 rfl hl (by decide) rfl (fun ls hl => ?_)
  refine lv_iload_n hx hb dX9_amount_6 rfl (lv_at hl 0 rfl) ?_
  refine lv_if_ge (tgt := 15) hx hb dX9_amount_7 (by decide) (fun h5 => ?_) (fun h5 => ?_)
  · rw [if_pos h5] at hm
    refine lv_iload_n hx hb dX9_amount_15 rfl (lv_at hl 0 rfl) ?_
    cases hm
    exact r_iret C0 hr hlocks hW hS dX9_amount_16
  · rw [if_neg h5] at hm
    refine lv_iload_n hx hb dX9_amount_10 rfl (lv_at hl 0 rfl) ?_
    refine lv_ineg hx hb dX9_amount_11 ?_
    refine lv_goto (tgt := 16) hx hb dX9_amount_12 (by decide) ?_
    cases hm
    exact r_iret C0 hr hlocks hW hS dX9_amount_16
set_option maxHeartbeats 4000000 in
set_option maxRecDepth 100000 in
theorem b_X9_areAlike {l : Launch} {D : va_G} {ca : Nat → ClassId} {A : Nat → Prop} {N : Nat} {σ : zS} {v0 : Nat} {v1 : Int32} {v2 : Int32} {r0 : Int32} (hm : m_X9_areAlike N σ v0 v1 v2 = some r0) : Met l yX9_areAlike (.code yX9_areAlike cX9_areAlike 3 (some .boolean) :: wsL_law) ({ frames := 0, cells := 0, slots := 0, locals := 0 } : Room) (va_Pc [.ref v0, .int v1, .int v2] (zP D ca A σ)) (zQi r0 D ca A σ) 0 0 A := by
  refine zMk (by decide +kernel) (Nat.le_of_ble_eq_true rfl) ?_
  intro p e s m below meth c C0 hr hlocks hin hW ls hl
  have hx := C0.1
  have hb := C0.2.1
  have hS : va_S A s.heap s.heap [] := va_S.rf
  have hl : lv_has ls 3 [(0, .ref v0), (1, .int v1), (2, .int v2)] := hl
  unfold m_X9_areAlike at hm
  refine lv_aload_n hx hb dX9_areAlike_0 rfl (lv_at hl 0 rfl) ?_
  replace hm := ob hm; obtain ⟨a1, e2, hm⟩ := hm
  refine r_getA C0 hW fl_X9_7 e2 dX9_areAlike_1 ?_
  refine lv_bipush (v := 23) hx hb dX9_areAlike_4 (by decide) ?_
  refine lv_iload_n hx hb dX9_areAlike_6 rfl (lv_at hl 1 rfl) ?_
  refine lv_imul hx hb dX9_areAlike_7 ?_
  refine lv_iconst (v := 0) hx hb dX9_areAlike_8 (by decide) ?_
  refine lv_iadd hx hb dX9_areAlike_9 ?_
  replace hm := ob hm; obtain ⟨x3, e4, hm⟩ := hm
  refine r_aI C0 hW e4 dX9_areAlike_10 ?_
  refine lv_aload_n hx hb dX9_areAlike_11 rfl (lv_at hl 0 rfl) ?_
  replace hm := ob hm; obtain ⟨a5, e6, hm⟩ := hm
  refine r_getA C0 hW fl_X9_7 e6 dX9_areAlike_12 ?_
  refine lv_bipush (v := 23) hx hb dX9_areAlike_15 (by decide) ?_
  refine lv_iload_n hx hb dX9_areAlike_17 rfl (lv_at hl 2 rfl) ?_
  refine lv_imul hx hb dX9_areAlike_18 ?_
  refine lv_iconst (v := 0) hx hb dX9_areAlike_19 (by decide) ?_
  refine lv_iadd hx hb dX9_areAlike_20 ?_
  replace hm := ob hm; obtain ⟨x7, e8, hm⟩ := hm
  refine r_aI C0 hW e8 dX9_areAlike_21 ?_
  refine lv_icmp_ne (tgt := 54) hx hb dX9_areAlike_22 (by decide) (fun h9 => ?_) (fun h9 => ?_)
  · rw [if_neg h9] at hm
    refine lv_iconst (v := 0) hx hb dX9_areAlike_54 (by decide) ?_
    cases hm
    exact r_zret C0 hr rfl hlocks hW hS dX9_areAlike_55
  · rw [if_pos h9] at hm
    refine lv_aload_n hx hb dX9_areAlike_25 rfl (lv_at hl 0 rfl) ?_
    replace hm := ob hm; obtain ⟨a10, e11, hm⟩ := hm
    refine r_getA C0 hW fl_X9_7 e11 dX9_areAlike_26 ?_
    refine lv_bipush (v := 23) hx hb dX9_areAlike_29 (by decide) ?_
    refine lv_iload_n hx hb dX9_areAlike_31 rfl (lv_at hl 1 rfl) ?_
    refine lv_imul hx hb dX9_areAlike_32 ?_
    refine lv_iconst (v := 1) hx hb dX9_areAlike_33 (by decide) ?_
    refine lv_iadd hx hb dX9_areAlike_34 ?_
    replace hm := ob hm; obtain ⟨x12, e13, hm⟩ := hm
    refine r_aI C0 hW e13 dX9_areAlike_35 ?_
    refine lv_aload_n hx hb dX9_areAlike_36 rfl (lv_at hl 0 rfl) ?_
    replace hm := ob hm; obtain ⟨a14, e15, hm⟩ := hm
    refine r_getA C0 hW fl_X9_7 e15 dX9_areAlike_37 ?_
    refine lv_bipush (v := 23) hx hb dX9_areAlike_40 (by decide) ?_
    refine lv_iload_n hx hb dX9_areAlike_42 rfl (lv_at hl 2 rfl) ?_
    refine lv_imul hx hb dX9_areAlike_43 ?_
    refine lv_iconst (v := 1) hx hb dX9_areAlike_44 (by decide) ?_
    refine lv_iadd hx hb dX9_areAlike_45 ?_
    replace hm := ob hm; obtain ⟨x16, e17, hm⟩ := hm
    refine r_aI C0 hW e17 dX9_areAlike_46 ?_
    refine lv_icmp_ne (tgt := 54) hx hb dX9_areAlike_47 (by decide) (fun h18 => ?_) (fun h18 => ?_)
    · rw [if_neg h18] at hm
      refine lv_iconst (v := 0) hx hb dX9_areAlike_54 (by decide) ?_
      cases hm
      exact r_zret C0 hr rfl hlocks hW hS dX9_areAlike_55
    · rw [if_pos h18] at hm
      refine lv_iconst (v := 1) hx hb dX9_areAlike_50 (by decide) ?_
      refine lv_goto (tgt := 55) hx hb dX9_areAlike_51 (by decide) ?_
      cases hm
      exact r_zret C0 hr rfl hlocks hW hS dX9_areAlike_55
set_option maxHeartbeats 4000000 in
set_option maxRecDepth 100000 in
theorem w_X9_seenByBoth_L6 {p : Program} {l : Launch} {e : Env} {s : State} {m : MethodId} {args : Array Value} {below : List Frame} {meth : Method} {c : Code} {D : va_G} {ca : Nat → ClassId} {A : Nat → Prop} {Q : State → Prop} (N : Nat) : ∀ (n : Nat) {σ : zS} {v0 : Nat} {v1 : Int32} {v2 : Int32} {v3 : Int32} {v4 : Int32} {v5 : Int32} {y4 : Int32} {H : Heap} {locs : List Loc} {ls : Array Slot}, m_X9_seenByBoth_L6 N n σ v0 v1 v2 v3 v4 v5 = some y4 → zC p s m args c RX9 cX9_seenByBoth 7 D ca A → zW D ca A σ H → va_S A s.heap H locs → lv_has ls 7 [(0, .ref v0), (1, .int v1), (2, .int v2), (3, .int v3), (4, .int v4), (5, .int v5)] → (∀ (H : Heap) (locs : List Loc) (ls : Array Slot), zW D ca A σ H → va_S A s.heap H locs → lv_has ls 7 [(4, .int y4)] → W p l e ({ frames := 0, cells := 0, slots := 0, locals := 0 } : Room) s m args below meth c H locs 0 0 Q (F0 m 89 ls [])) → W p l e ({ frames := 0, cells := 0, slots := 0, locals := 0 } : Room) s m args below meth c H locs 0 0 Q (F0 m 6 ls []) := by
  intro n
  induction n with
  | zero =>
    intro σ v0 v1 v2 v3 v4 v5 y4 H locs ls hm C0 hW hS hl kk
    rw [m_X9_seenByBoth_L6] at hm
    cases hm
  | succ n ih =>
    intro σ v0 v1 v2 v3 v4 v5 y4 H locs ls hm C0 hW hS hl kk
    rw [m_X9_seenByBoth_L6] at hm
    have hx := C0.1
    have hb := C0.2.1
    refine lv_iload hx hb dX9_seenByBoth_6 (lv_at hl 5 rfl) ?_
    refine lv_sipush (v := 1000) hx hb dX9_seenByBoth_8 (by decide) ?_
    refine lv_icmp_ge (tgt := 89) hx hb dX9_seenByBoth_11 (by decide) (fun h1 => ?_) (fun h1 => ?_)
    · rw [if_pos h1] at hm
      cases hm
      exact kk _ _ _ hW hS (lv_sub hl [4] rfl)
    · rw [if_neg h1] at hm
      refine lv_aload_n hx hb dX9_seenByBoth_14 rfl (lv_at hl 0 rfl) ?_
      replace hm := ob hm; obtain ⟨a2, e3, hm⟩ := hm
      refine r_getA C0 hW fl_X9_7 e3 dX9_seenByBoth_15 ?_
      refine lv_sipush (v := 165) hx hb dX9_seenByBoth_18 (by decide) ?_
      refine lv_sipush (v := 1000) hx hb dX9_seenByBoth_21 (by decide) ?_
      refine lv_iload_n hx hb dX9_seenByBoth_24 rfl (lv_at hl 1 rfl) ?_
      refine lv_imul hx hb dX9_seenByBoth_25 ?_
      refine lv_iadd hx hb dX9_seenByBoth_26 ?_
      refine lv_iload hx hb dX9_seenByBoth_27 (lv_at hl 5 rfl) ?_
      refine lv_iadd hx hb dX9_seenByBoth_29 ?_
      replace hm := ob hm; obtain ⟨x4, e5, hm⟩ := hm
      refine r_aI C0 hW e5 dX9_seenByBoth_30 ?_
      replace hm := ob hm; obtain ⟨y8, e27, hm⟩ := hm
      have J39_6 : ∀ (H : Heap) (locs : List Loc) (ls : Array Slot), zW D ca A σ H → va_S A s.heap H locs → lv_has ls 7 [(0, .ref v0), (1, .int v1), (2, .int v2), (3, .int v3), (4, .int v4), (5, .int v5)] → W p l e ({ frames := 0, cells := 0, slots := 0, locals := 0 } : Room) s m args below meth c H locs 0 0 Q (F0 m 39 ls [.int y8]) := by
        intro H locs ls hW hS hl
        refine lv_aload_n hx hb dX9_seenByBoth_39 rfl (lv_at hl 0 rfl) ?_
        replace hm := ob hm; obtain ⟨a9, e10, hm⟩ := hm
        refine r_getA C0 hW fl_X9_7 e10 dX9_seenByBoth_40 ?_
        refine lv_sipush (v := 165) hx hb dX9_seenByBoth_43 (by decide) ?_
        refine lv_sipush (v := 1000) hx hb dX9_seenByBoth_46 (by decide) ?_
        refine lv_iload_n hx hb dX9_seenByBoth_49 rfl (lv_at hl 2 rfl) ?_
        refine lv_imul hx hb dX9_seenByBoth_50 ?_
        refine lv_iadd hx hb dX9_seenByBoth_51 ?_
        refine lv_iload hx hb dX9_seenByBoth_52 (lv_at hl 5 rfl) ?_
        refine lv_iadd hx hb dX9_seenByBoth_54 ?_
        replace hm := ob hm; obtain ⟨x11, e12, hm⟩ := hm
        refine r_aI C0 hW e12 dX9_seenByBoth_55 ?_
        replace hm := ob hm; obtain ⟨y15, e26, hm⟩ := hm
        have J64_13 : ∀ (H : Heap) (locs : List Loc) (ls : Array Slot), zW D ca A σ H → va_S A s.heap H locs → lv_has ls 7 [(0, .ref v0), (1, .int v1), (2, .int v2), (3, .int v3), (4, .int v4), (5, .int v5)] → W p l e ({ frames := 0, cells := 0, slots := 0, locals := 0 } : Room) s m args below meth c H locs 0 0 Q (F0 m 64 ls [.int y15, .int y8]) := by
          intro H locs ls hW hS hl
          refine lv_iadd hx hb dX9_seenByBoth_64 ?_
          replace hm := ob hm; obtain ⟨x16, e17, hm⟩ := hm
          refine z_top e17 ?_
          refine lv_istore (lv' := [(6, .int x16), (0, .ref v0), (1, .int v1), (2, .int v2), (3, .int v3), (4, .int v4), (5, .int v5)]) hx hb dX9_seenByBoth_65 hl (by decide) rfl (fun ls hl => ?_)
          refine lv_iload hx hb dX9_seenByBoth_67 (lv_at hl 5 rfl) ?_
          refine lv_iload hx hb dX9_seenByBoth_69 (lv_at hl 0 rfl) ?_
          refine lv_iload_n hx hb dX9_seenByBoth_71 rfl (lv_at hl 4 rfl) ?_
          replace hm := ob hm; obtain ⟨y20, e25, hm⟩ := hm
          have J80_18 : ∀ (H : Heap) (locs : List Loc) (ls : Array Slot), zW D ca A σ H → va_S A s.heap H locs → lv_has ls 7 [(0, .ref v0), (1, .int v1), (2, .int v2), (3, .int v3), (5, .int v5)] → W p l e ({ frames := 0, cells := 0, slots := 0, locals := 0 } : Room) s m args below meth c H locs 0 0 Q (F0 m 80 ls [.int y20, .int v4]) := by
            intro H locs ls hW hS hl
            refine lv_iadd hx hb dX9_seenByBoth_80 ?_
            replace hm := ob hm; obtain ⟨x21, e22, hm⟩ := hm
            refine z_top e22 ?_
            refine lv_istore (lv' := [(4, .int x21), (0, .ref v0), (1, .int v1), (2, .int v2), (3, .int v3), (5, .int v5)]) hx hb dX9_seenByBoth_81 hl (by decide) rfl (fun ls hl => ?_)
            replace hm := ob hm; obtain ⟨x23, e24, hm⟩ := hm
            refine lv_iinc (v := x23) (lv' := [(5, .int x23), (4, .int x21), (0, .ref v0), (1, .int v1), (2, .int v2), (3, .int v3)]) hx hb dX9_seenByBoth_83 hl (k := 5) rfl (Option.some.inj e24) (by decide) rfl (fun ls hl => ?_)
            refine lv_goto (tgt := 6) hx hb dX9_seenByBoth_86 (by decide) ?_
            exact ih hm C0 hW hS (lv_sub hl [2, 3, 4, 5, 1, 0] rfl) kk
          clear hm
          have hm := e25
          clear e25
          refine lv_icmp_lt (tgt := 79) hx hb dX9_seenByBoth_72 (by decide) (fun h18 => ?_) (fun h18 => ?_)
          · rw [if_pos h18] at hm
            refine lv_iconst (v := 0) hx hb dX9_seenByBoth_79 (by decide) ?_
            have hq1 := Option.some.inj hm; subst hq1
            exact J80_18 _ _ _ hW hS (lv_sub hl [1, 2, 3, 4, 6] rfl)
          · rw [if_neg h18] at hm
            refine lv_iconst (v := 1) hx hb dX9_seenByBoth_75 (by decide) ?_
            refine lv_goto (tgt := 80) hx hb dX9_seenByBoth_76 (by decide) ?_
            have hq1 := Option.some.inj hm; subst hq1
            exact J80_18 _ _ _ hW hS (lv_sub hl [1, 2, 3, 4, 6] rfl)
        clear hm
        have hm := e26
        clear e26
        refine lv_if_le (tgt := 63) hx hb dX9_seenByBoth_56 (by decide) (fun h13 => ?_) (fun h13 => ?_)
        · rw [if_pos h13] at hm
          refine lv_iconst (v := 0) hx hb dX9_seenByBoth_63 (by decide) ?_
          have hq1 := Option.some.inj hm; subst hq1
          exact J64_13 _ _ _ hW hS (lv_sub hl [0, 1, 2, 3, 4, 5] rfl)
        · rw [if_neg h13] at hm
          refine lv_iconst (v := 1) hx hb dX9_seenByBoth_59 (by decide) ?_
          refine lv_goto (tgt := 64) hx hb dX9_seenByBoth_60 (by decide) ?_
          have hq1 := Option.some.inj hm; subst hq1
          exact J64_13 _ _ _ hW hS (lv_sub hl [0, 1, 2, 3, 4, 5] rfl)
      clear hm
      have hm := e27
      clear e27
      refine lv_if_le (tgt := 38) hx hb dX9_seenByBoth_31 (by decide) (fun h6 => ?_) (fun h6 => ?_)
      · rw [if_pos h6] at hm
        refine lv_iconst (v := 0) hx hb dX9_seenByBoth_38 (by decide) ?_
        have hq1 := Option.some.inj hm; subst hq1
        exact J39_6 _ _ _ hW hS (lv_sub hl [0, 1, 2, 3, 4, 5] rfl)
      · rw [if_neg h6] at hm
        refine lv_iconst (v := 1) hx hb dX9_seenByBoth_34 (by decide) ?_
        refine lv_goto (tgt := 39) hx hb dX9_seenByBoth_35 (by decide) ?_
        have hq1 := Option.some.inj hm; subst hq1
        exact J39_6 _ _ _ hW hS (lv_sub hl [0, 1, 2, 3, 4, 5] rfl)
set_option maxHeartbeats 4000000 in
set_option maxRecDepth 100000 in
theorem b_X9_seenByBoth {l : Launch} {D : va_G} {ca : Nat → ClassId} {A : Nat → Prop} {N : Nat} {σ : zS} {v0 : Nat} {v1 : Int32} {v2 : Int32} {v3 : Int32} {r0 : Int32} (hm : m_X9_seenByBoth N σ v0 v1 v2 v3 = some r0) : Met l yX9_seenByBoth (.code yX9_seenByBoth cX9_seenByBoth 7 (some .int) :: wsL_law) ({ frames := 0, cells := 0, slots := 0, locals := 0 } : Room) (va_Pc [.ref v0, .int v1, .int v2, .int v3] (zP D ca A σ)) (zQi r0 D ca A σ) 0 0 A := by
  refine zMk (by decide +kernel) (Nat.le_of_ble_eq_true rfl) ?_
  intro p e s m below meth c C0 hr hlocks hin hW ls hl
  have hx := C0.1
  have hb := C0.2.1
  have hS : va_S A s.heap s.heap [] := va_S.rf
  have hl : lv_has ls 7 [(0, .ref v0), (1, .int v1), (2, .int v2), (3, .int v3)] := hl
  unfold m_X9_seenByBoth at hm
  refine lv_iconst (v := 0) hx hb dX9_seenByBoth_0 (by decide) ?_
  refine lv_istore (lv' := [(4, .int 0), (0, .ref v0), (1, .int v1), (2, .int v2), (3, .int v3)]) hx hb dX9_seenByBoth_1 hl (by decide) rfl (fun ls hl => ?_)
  refine lv_iconst (v := 0) hx hb dX9_seenByBoth_3 (by decide) ?_
  refine lv_istore (lv' := [(5, .int 0), (4, .int 0), (0, .ref v0), (1, .int v1), (2, .int v2), (3, .int v3)]) hx hb dX9_seenByBoth_4 hl (by decide) rfl (fun ls hl => ?_)
  replace hm := ob hm; obtain ⟨y28, e29, hm⟩ := hm
  refine w_X9_seenByBoth_L6 N N e29 C0 hW hS (lv_sub hl [2, 3, 4, 5, 1, 0] rfl) (fun H locs ls hW hS hl => ?_)
  refine lv_iload hx hb dX9_seenByBoth_89 (lv_at hl 0 rfl) ?_
  cases hm
  exact r_iret C0 hr hlocks hW hS dX9_seenByBoth_91
set_option maxHeartbeats 4000000 in
set_option maxRecDepth 100000 in
theorem w_X9_laysMix_L2 {p : Program} {l : Launch} {e : Env} {s : State} {m : MethodId} {args : Array Value} {below : List Frame} {meth : Method} {c : Code} {D : va_G} {ca : Nat → ClassId} {A : Nat → Prop} {Q : State → Prop} (N : Nat) : ∀ (n : Nat) {σ : zS} {v0 : Nat} {v1 : Int32} {v2 : Int32} {σ' : zS} {H : Heap} {locs : List Loc} {ls : Array Slot}, m_X9_laysMix_L2 N n σ v0 v1 v2 = some σ' → zC p s m args c RX9 cX9_laysMix 3 D ca A → zW D ca A σ H → va_S A s.heap H locs → lv_has ls 3 [(0, .ref v0), (1, .int v1), (2, .int v2)] → (∀ (H : Heap) (locs : List Loc) (ls : Array Slot), zW D ca A σ' H → va_S A s.heap H locs → lv_has ls 3 [] → W p l e ({ frames := 0, cells := 0, slots := 0, locals := 0 } : Room) s m args below meth c H locs 0 0 Q (F0 m 31 ls [])) → W p l e ({ frames := 0, cells := 0, slots := 0, locals := 0 } : Room) s m args below meth c H locs 0 0 Q (F0 m 2 ls []) := by
  intro n
  induction n with
  | zero =>
    intro σ v0 v1 v2 σ' H locs ls hm C0 hW hS hl kk
    rw [m_X9_laysMix_L2] at hm
    cases hm
  | succ n ih =>
    intro σ v0 v1 v2 σ' H locs ls hm C0 hW hS hl kk
    rw [m_X9_laysMix_L2] at hm
    have hx := C0.1
    have hb := C0.2.1
    refine lv_iload_n hx hb dX9_laysMix_2 rfl (lv_at hl 2 rfl) ?_
    refine lv_bipush (v := 23) hx hb dX9_laysMix_3 (by decide) ?_
    refine lv_icmp_ge (tgt := 31) hx hb dX9_laysMix_5 (by decide) (fun h1 => ?_) (fun h1 => ?_)
    · rw [if_pos h1] at hm
      cases hm
      exact kk _ _ _ hW hS (lv_sub hl [] rfl)
    · rw [if_neg h1] at hm
      refine lv_aload_n hx hb dX9_laysMix_8 rfl (lv_at hl 0 rfl) ?_
      replace hm := ob hm; obtain ⟨a2, e3, hm⟩ := hm
      refine r_getA C0 hW fl_X9_28 e3 dX9_laysMix_9 ?_
      refine lv_iload_n hx hb dX9_laysMix_12 rfl (lv_at hl 2 rfl) ?_
      refine lv_aload_n hx hb dX9_laysMix_13 rfl (lv_at hl 0 rfl) ?_
      replace hm := ob hm; obtain ⟨a4, e5, hm⟩ := hm
      refine r_getA C0 hW fl_X9_7 e5 dX9_laysMix_14 ?_
      refine lv_bipush (v := 23) hx hb dX9_laysMix_17 (by decide) ?_
      refine lv_iload_n hx hb dX9_laysMix_19 rfl (lv_at hl 1 rfl) ?_
      refine lv_imul hx hb dX9_laysMix_20 ?_
      refine lv_iload_n hx hb dX9_laysMix_21 rfl (lv_at hl 2 rfl) ?_
      refine lv_iadd hx hb dX9_laysMix_22 ?_
      replace hm := ob hm; obtain ⟨x6, e7, hm⟩ := hm
      refine r_aI C0 hW e7 dX9_laysMix_23 ?_
      replace hm := ob hm; obtain ⟨σ8, e9, hm⟩ := hm
      refine r_uI C0 hW hS e9 dX9_laysMix_24 (fun H locs hW hS => ?_)
      replace hm := ob hm; obtain ⟨x10, e11, hm⟩ := hm
      refine lv_iinc (v := x10) (lv' := [(2, .int x10), (0, .ref v0), (1, .int v1)]) hx hb dX9_laysMix_25 hl (k := 2) rfl (Option.some.inj e11) (by decide) rfl (fun ls hl => ?_)
      refine lv_goto (tgt := 2) hx hb dX9_laysMix_28 (by decide) ?_
      exact ih hm C0 hW hS (lv_sub hl [1, 2, 0] rfl) kk
set_option maxHeartbeats 4000000 in
set_option maxRecDepth 100000 in
theorem b_X9_laysMix {l : Launch} {D : va_G} {ca : Nat → ClassId} {A : Nat → Prop} {N : Nat} {σ : zS} {v0 : Nat} {v1 : Int32} {σ' : zS} (hm : m_X9_laysMix N σ v0 v1 = some σ') : Met l yX9_laysMix (.code yX9_laysMix cX9_laysMix 3 none :: wsL_law) ({ frames := 0, cells := 0, slots := 0, locals := 0 } : Room) (va_Pc [.ref v0, .int v1] (zP D ca A σ)) (zQv D ca A σ') 0 0 A := by
  refine zMk (by decide +kernel) (Nat.le_of_ble_eq_true rfl) ?_
  intro p e s m below meth c C0 hr hlocks hin hW ls hl
  have hx := C0.1
  have hb := C0.2.1
  have hS : va_S A s.heap s.heap [] := va_S.rf
  have hl : lv_has ls 3 [(0, .ref v0), (1, .int v1)] := hl
  unfold m_X9_laysMix at hm
  refine lv_iconst (v := 0) hx hb dX9_laysMix_0 (by decide) ?_
  refine lv_istore_n (lv' := [(2, .int 0), (0, .ref v0), (1, .int v1)]) hx hb dX9_laysMix_1 rfl hl (by decide) rfl (fun ls hl => ?_)
  replace hm := ob hm; obtain ⟨σ12, e13, hm⟩ := hm
  refine w_X9_laysMix_L2 N N e13 C0 hW hS (lv_sub hl [1, 2, 0] rfl) (fun H locs ls hW hS hl => ?_)
  cases hm
  exact r_vret C0 hr hlocks hW hS dX9_laysMix_31
set_option maxHeartbeats 4000000 in
set_option maxRecDepth 100000 in
theorem w_X9_mingles_L16 {p : Program} {l : Launch} {e : Env} {s : State} {m : MethodId} {args : Array Value} {below : List Frame} {meth : Method} {c : Code} {D : va_G} {ca : Nat → ClassId} {A : Nat → Prop} {Q : State → Prop} (N : Nat) : ∀ (n : Nat) {σ : zS} {v0 : Nat} {v1 : Int32} {v2 : Nat} {v3 : Int32} {v4 : Int32} {σ' : zS} {H : Heap} {locs : List Loc} {ls : Array Slot}, m_X9_mingles_L16 N n σ v0 v1 v2 v3 v4 = some σ' → zC p s m args c RX9 cX9_mingles 5 D ca A → zW D ca A σ H → va_S A s.heap H locs → lv_has ls 5 [(0, .ref v0), (1, .int v1), (2, .ref v2), (3, .int v3), (4, .int v4)] → (∀ (H : Heap) (locs : List Loc) (ls : Array Slot), zW D ca A σ' H → va_S A s.heap H locs → lv_has ls 5 [(0, .ref v0), (1, .int v1), (2, .ref v2), (3, .int v3)] → W p l e ({ frames := 1, cells := 0, slots := 0, locals := 26 } : Room) s m args below meth c H locs 0 0 Q (F0 m 46 ls [])) → W p l e ({ frames := 1, cells := 0, slots := 0, locals := 26 } : Room) s m args below meth c H locs 0 0 Q (F0 m 16 ls []) := by
  intro n
  induction n with
  | zero =>
    intro σ v0 v1 v2 v3 v4 σ' H locs ls hm C0 hW hS hl kk
    rw [m_X9_mingles_L16] at hm
    cases hm
  | succ n ih =>
    intro σ v0 v1 v2 v3 v4 σ' H locs ls hm C0 hW hS hl kk
    rw [m_X9_mingles_L16] at hm
    have hx := C0.1
    have hb := C0.2.1
    refine lv_iload hx hb dX9_mingles_16 (lv_at hl 4 rfl) ?_
    refine lv_aload_n hx hb dX9_mingles_18 rfl (lv_at hl 2 rfl) ?_
    refine lv_iload_n hx hb dX9_mingles_19 rfl (lv_at hl 3 rfl) ?_
    refine lv_iconst (v := 5) hx hb dX9_mingles_20 (by decide) ?_
    refine lv_iadd hx hb dX9_mingles_21 ?_
    replace hm := ob hm; obtain ⟨x9, e10, hm⟩ := hm
    refine r_aI C0 hW e10 dX9_mingles_22 ?_
    refine lv_icmp_ge (tgt := 46) hx hb dX9_mingles_23 (by decide) (fun h11 => ?_) (fun h11 => ?_)
    · rw [if_pos h11] at hm
      cases hm
      exact kk _ _ _ hW hS (lv_sub hl [0, 1, 2, 3] rfl)
    · rw [if_neg h11] at hm
      refine lv_aload_n hx hb dX9_mingles_26 rfl (lv_at hl 0 rfl) ?_
      refine lv_iload_n hx hb dX9_mingles_27 rfl (lv_at hl 1 rfl) ?_
      refine lv_aload_n hx hb dX9_mingles_28 rfl (lv_at hl 2 rfl) ?_
      refine lv_iload_n hx hb dX9_mingles_29 rfl (lv_at hl 3 rfl) ?_
      refine lv_bipush (v := 6) hx hb dX9_mingles_30 (by decide) ?_
      refine lv_iadd hx hb dX9_mingles_32 ?_
      refine lv_iload hx hb dX9_mingles_33 (lv_at hl 4 rfl) ?_
      refine lv_iadd hx hb dX9_mingles_35 ?_
      replace hm := ob hm; obtain ⟨x12, e13, hm⟩ := hm
      refine r_aI C0 hW e13 dX9_mingles_36 ?_
      replace hm := ob hm; obtain ⟨σ15, e14, hm⟩ := hm
      refine z_callv (z_runS (As := [.ref v0, .int v1, .int x12]) (rest := []) C0 ls_X9_55 (b_X9_keepHash e14) hW hS rfl hl.1 rfl (Nat.le_of_ble_eq_true rfl) dX9_mingles_37 rfl rfl ⟨Nat.le_of_ble_eq_true rfl, Nat.le_of_ble_eq_true rfl⟩ ⟨Nat.le_refl _, Nat.le_refl _⟩) hS (fun H locs hW hS => ?_)
      replace hm := ob hm; obtain ⟨x16, e17, hm⟩ := hm
      refine lv_iinc (v := x16) (lv' := [(4, .int x16), (0, .ref v0), (1, .int v1), (2, .ref v2), (3, .int v3)]) hx hb dX9_mingles_40 hl (k := 4) rfl (Option.some.inj e17) (by decide) rfl (fun ls hl => ?_)
      refine lv_goto (tgt := 16) hx hb dX9_mingles_43 (by decide) ?_
      exact ih hm C0 hW hS (lv_sub hl [1, 2, 3, 4, 0] rfl) kk
set_option maxHeartbeats 4000000 in
set_option maxRecDepth 100000 in
theorem w_X9_mingles_L49 {p : Program} {l : Launch} {e : Env} {s : State} {m : MethodId} {args : Array Value} {below : List Frame} {meth : Method} {c : Code} {D : va_G} {ca : Nat → ClassId} {A : Nat → Prop} {Q : State → Prop} (N : Nat) : ∀ (n : Nat) {σ : zS} {v0 : Nat} {v1 : Int32} {v2 : Nat} {v3 : Int32} {v4 : Int32} {σ' : zS} {H : Heap} {locs : List Loc} {ls : Array Slot}, m_X9_mingles_L49 N n σ v0 v1 v2 v3 v4 = some σ' → zC p s m args c RX9 cX9_mingles 5 D ca A → zW D ca A σ H → va_S A s.heap H locs → lv_has ls 5 [(0, .ref v0), (1, .int v1), (2, .ref v2), (3, .int v3), (4, .int v4)] → (∀ (H : Heap) (locs : List Loc) (ls : Array Slot), zW D ca A σ' H → va_S A s.heap H locs → lv_has ls 5 [] → W p l e ({ frames := 1, cells := 0, slots := 0, locals := 26 } : Room) s m args below meth c H locs 0 0 Q (F0 m 78 ls [])) → W p l e ({ frames := 1, cells := 0, slots := 0, locals := 26 } : Room) s m args below meth c H locs 0 0 Q (F0 m 49 ls []) := by
  intro n
  induction n with
  | zero =>
    intro σ v0 v1 v2 v3 v4 σ' H locs ls hm C0 hW hS hl kk
    rw [m_X9_mingles_L49] at hm
    cases hm
  | succ n ih =>
    intro σ v0 v1 v2 v3 v4 σ' H locs ls hm C0 hW hS hl kk
    rw [m_X9_mingles_L49] at hm
    have hx := C0.1
    have hb := C0.2.1
    refine lv_iload hx hb dX9_mingles_49 (lv_at hl 4 rfl) ?_
    refine lv_bipush (v := 8) hx hb dX9_mingles_51 (by decide) ?_
    refine lv_icmp_ge (tgt := 78) hx hb dX9_mingles_53 (by decide) (fun h20 => ?_) (fun h20 => ?_)
    · rw [if_pos h20] at hm
      cases hm
      exact kk _ _ _ hW hS (lv_sub hl [] rfl)
    · rw [if_neg h20] at hm
      refine lv_aload_n hx hb dX9_mingles_56 rfl (lv_at hl 0 rfl) ?_
      refine lv_iload_n hx hb dX9_mingles_57 rfl (lv_at hl 1 rfl) ?_
      refine lv_iload hx hb dX9_mingles_58 (lv_at hl 4 rfl) ?_
      refine lv_aload_n hx hb dX9_mingles_60 rfl (lv_at hl 2 rfl) ?_
      refine lv_iload_n hx hb dX9_mingles_61 rfl (lv_at hl 3 rfl) ?_
      refine lv_bipush (v := 14) hx hb dX9_mingles_62 (by decide) ?_
      refine lv_iadd hx hb dX9_mingles_64 ?_
      refine lv_iload hx hb dX9_mingles_65 (lv_at hl 4 rfl) ?_
      refine lv_iadd hx hb dX9_mingles_67 ?_
      replace hm := ob hm; obtain ⟨x21, e22, hm⟩ := hm
      refine r_aI C0 hW e22 dX9_mingles_68 ?_
      replace hm := ob hm; obtain ⟨σ24, e23, hm⟩ := hm
      refine z_callv (z_runS (As := [.ref v0, .int v1, .int v4, .int x21]) (rest := []) C0 ls_X9_63 (b_X9_keepRegister e23) hW hS rfl hl.1 rfl (Nat.le_of_ble_eq_true rfl) dX9_mingles_69 rfl rfl ⟨Nat.le_of_ble_eq_true rfl, Nat.le_of_ble_eq_true rfl⟩ ⟨Nat.le_refl _, Nat.le_refl _⟩) hS (fun H locs hW hS => ?_)
      replace hm := ob hm; obtain ⟨x25, e26, hm⟩ := hm
      refine lv_iinc (v := x25) (lv' := [(4, .int x25), (0, .ref v0), (1, .int v1), (2, .ref v2), (3, .int v3)]) hx hb dX9_mingles_72 hl (k := 4) rfl (Option.some.inj e26) (by decide) rfl (fun ls hl => ?_)
      refine lv_goto (tgt := 49) hx hb dX9_mingles_75 (by decide) ?_
      exact ih hm C0 hW hS (lv_sub hl [1, 2, 3, 4, 0] rfl) kk
set_option maxHeartbeats 4000000 in
set_option maxRecDepth 100000 in
theorem b_X9_mingles {l : Launch} {D : va_G} {ca : Nat → ClassId} {A : Nat → Prop} {N : Nat} {σ : zS} {v0 : Nat} {v1 : Int32} {v2 : Nat} {v3 : Int32} {σ' : zS} (hm : m_X9_mingles N σ v0 v1 v2 v3 = some σ') : Met l yX9_mingles (.code yX9_mingles cX9_mingles 5 none :: wsL_law) ({ frames := 1, cells := 0, slots := 0, locals := 26 } : Room) (va_Pc [.ref v0, .int v1, .ref v2, .int v3] (zP D ca A σ)) (zQv D ca A σ') 0 0 A := by
  refine zMk (by decide +kernel) (Nat.le_of_ble_eq_true rfl) ?_
  intro p e s m below meth c C0 hr hlocks hin hW ls hl
  have hx := C0.1
  have hb := C0.2.1
  have hS : va_S A s.heap s.heap [] := va_S.rf
  have hl : lv_has ls 5 [(0, .ref v0), (1, .int v1), (2, .ref v2), (3, .int v3)] := hl
  unfold m_X9_mingles at hm
  refine lv_aload_n hx hb dX9_mingles_0 rfl (lv_at hl 0 rfl) ?_
  refine lv_iload_n hx hb dX9_mingles_1 rfl (lv_at hl 1 rfl) ?_
  refine lv_iconst (v := 4) hx hb dX9_mingles_2 (by decide) ?_
  refine lv_iadd hx hb dX9_mingles_3 ?_
  replace hm := ob hm; obtain ⟨x1, e2, hm⟩ := hm
  refine z_top e2 ?_
  refine lv_dup2_11 hx hb dX9_mingles_4 rfl rfl ?_
  replace hm := ob hm; obtain ⟨x3, e4, hm⟩ := hm
  refine r_aI C0 hW e4 dX9_mingles_5 ?_
  refine lv_aload_n hx hb dX9_mingles_6 rfl (lv_at hl 2 rfl) ?_
  refine lv_iload_n hx hb dX9_mingles_7 rfl (lv_at hl 3 rfl) ?_
  refine lv_iconst (v := 4) hx hb dX9_mingles_8 (by decide) ?_
  refine lv_iadd hx hb dX9_mingles_9 ?_
  replace hm := ob hm; obtain ⟨x5, e6, hm⟩ := hm
  refine r_aI C0 hW e6 dX9_mingles_10 ?_
  refine lv_ior hx hb dX9_mingles_11 ?_
  replace hm := ob hm; obtain ⟨σ7, e8, hm⟩ := hm
  refine r_uI C0 hW hS e8 dX9_mingles_12 (fun H locs hW hS => ?_)
  refine lv_iconst (v := 0) hx hb dX9_mingles_13 (by decide) ?_
  refine lv_istore (lv' := [(4, .int 0), (0, .ref v0), (1, .int v1), (2, .ref v2), (3, .int v3)]) hx hb dX9_mingles_14 hl (by decide) rfl (fun ls hl => ?_)
  replace hm := ob hm; obtain ⟨σ18, e19, hm⟩ := hm
  refine w_X9_mingles_L16 N N e19 C0 hW hS (lv_sub hl [1, 2, 3, 4, 0] rfl) (fun H locs ls hW hS hl => ?_)
  refine lv_iconst (v := 0) hx hb dX9_mingles_46 (by decide) ?_
  refine lv_istore (lv' := [(4, .int 0), (0, .ref v0), (1, .int v1), (2, .ref v2), (3, .int v3)]) hx hb dX9_mingles_47 hl (by decide) rfl (fun ls hl => ?_)
  replace hm := ob hm; obtain ⟨σ27, e28, hm⟩ := hm
  refine w_X9_mingles_L49 N N e28 C0 hW hS (lv_sub hl [1, 2, 3, 4, 0] rfl) (fun H locs ls hW hS hl => ?_)
  cases hm
  exact r_vret C0 hr hlocks hW hS dX9_mingles_78
set_option maxHeartbeats 4000000 in
set_option maxRecDepth 100000 in
theorem b_X9_toldOfBoth {l : Launch} {D : va_G} {ca : Nat → ClassId} {A : Nat → Prop} {N : Nat} {σ : zS} {v0 : Nat} {v1 : Int32} {v2 : Int32} {r0 : Int32} {σ' : zS} (hm : m_X9_toldOfBoth N σ v0 v1 v2 = some (r0, σ')) : Met l yX9_toldOfBoth (.code yX9_toldOfBoth cX9_toldOfBoth 3 (some .int) :: wsL_law) ({ frames := 4, cells := 0, slots := 0, locals := 92 } : Room) (va_Pc [.ref v0, .int v1, .int v2] (zP D ca A σ)) (zQi r0 D ca A σ') 0 0 A := by
  refine zMk (by decide +kernel) (Nat.le_of_ble_eq_true rfl) ?_
  intro p e s m below meth c C0 hr hlocks hin hW ls hl
  have hx := C0.1
  have hb := C0.2.1
  have hS : va_S A s.heap s.heap [] := va_S.rf
  have hl : lv_has ls 3 [(0, .ref v0), (1, .int v1), (2, .int v2)] := hl
  unfold m_X9_toldOfBoth at hm
  refine lv_aload_n hx hb dX9_toldOfBoth_0 rfl (lv_at hl 0 rfl) ?_
  refine lv_iload_n hx hb dX9_toldOfBoth_1 rfl (lv_at hl 1 rfl) ?_
  replace hm := ob hm; obtain ⟨u1, e2, hm⟩ := hm
  replace hm := ob hm; obtain ⟨σ4, e3, hm⟩ := hm
  refine z_callv (z_runV (As := [.int v1]) (rest := []) (ci := 9) rfl rfl C0 lv_X9_160 (b_X9_laysMix e3) hW hS e2 rfl hl.1 rfl (Nat.le_of_ble_eq_true rfl) dX9_toldOfBoth_2 rfl rfl ⟨Nat.le_of_ble_eq_true rfl, Nat.le_of_ble_eq_true rfl⟩ ⟨Nat.le_refl _, Nat.le_refl _⟩) hS (fun H locs hW hS => ?_)
  refine lv_aload_n hx hb dX9_toldOfBoth_5 rfl (lv_at hl 0 rfl) ?_
  replace hm := ob hm; obtain ⟨a5, e6, hm⟩ := hm
  refine r_getA C0 hW fl_X9_28 e6 dX9_toldOfBoth_6 ?_
  refine lv_iconst (v := 0) hx hb dX9_toldOfBoth_9 (by decide) ?_
  refine lv_aload_n hx hb dX9_toldOfBoth_10 rfl (lv_at hl 0 rfl) ?_
  replace hm := ob hm; obtain ⟨a7, e8, hm⟩ := hm
  refine r_getA C0 hW fl_X9_7 e8 dX9_toldOfBoth_11 ?_
  refine lv_bipush (v := 23) hx hb dX9_toldOfBoth_14 (by decide) ?_
  refine lv_iload_n hx hb dX9_toldOfBoth_16 rfl (lv_at hl 2 rfl) ?_
  refine lv_imul hx hb dX9_toldOfBoth_17 ?_
  replace hm := ob hm; obtain ⟨σ10, e9, hm⟩ := hm
  refine z_callv (z_runS (As := [.ref a5, .int 0, .ref a7, .int (23 * v2)]) (rest := []) C0 ls_X9_131 (b_X9_mingles e9) hW hS rfl hl.1 rfl (Nat.le_of_ble_eq_true rfl) dX9_toldOfBoth_18 rfl rfl ⟨Nat.le_of_ble_eq_true rfl, Nat.le_of_ble_eq_true rfl⟩ ⟨Nat.le_refl _, Nat.le_refl _⟩) hS (fun H locs hW hS => ?_)
  refine lv_aload_n hx hb dX9_toldOfBoth_21 rfl (lv_at hl 0 rfl) ?_
  replace hm := ob hm; obtain ⟨a11, e12, hm⟩ := hm
  refine r_getA C0 hW fl_X9_28 e12 dX9_toldOfBoth_22 ?_
  refine lv_iconst (v := 2) hx hb dX9_toldOfBoth_25 (by decide) ?_
  refine lv_aload_n hx hb dX9_toldOfBoth_26 rfl (lv_at hl 0 rfl) ?_
  refine lv_aload_n hx hb dX9_toldOfBoth_27 rfl (lv_at hl 0 rfl) ?_
  replace hm := ob hm; obtain ⟨a13, e14, hm⟩ := hm
  refine r_getA C0 hW fl_X9_28 e14 dX9_toldOfBoth_28 ?_
  refine lv_iconst (v := 2) hx hb dX9_toldOfBoth_31 (by decide) ?_
  replace hm := ob hm; obtain ⟨x15, e16, hm⟩ := hm
  refine r_aI C0 hW e16 dX9_toldOfBoth_32 ?_
  refine lv_aload_n hx hb dX9_toldOfBoth_33 rfl (lv_at hl 0 rfl) ?_
  replace hm := ob hm; obtain ⟨a17, e18, hm⟩ := hm
  refine r_getA C0 hW fl_X9_7 e18 dX9_toldOfBoth_34 ?_
  refine lv_bipush (v := 23) hx hb dX9_toldOfBoth_37 (by decide) ?_
  refine lv_iload_n hx hb dX9_toldOfBoth_39 rfl (lv_at hl 2 rfl) ?_
  refine lv_imul hx hb dX9_toldOfBoth_40 ?_
  refine lv_iconst (v := 2) hx hb dX9_toldOfBoth_41 (by decide) ?_
  refine lv_iadd hx hb dX9_toldOfBoth_42 ?_
  replace hm := ob hm; obtain ⟨x19, e20, hm⟩ := hm
  refine r_aI C0 hW e20 dX9_toldOfBoth_43 ?_
  replace hm := ob hm; obtain ⟨u21, e22, hm⟩ := hm
  replace hm := ob hm; obtain ⟨x24, e23, hm⟩ := hm
  refine z_calli (z_runV (As := [.int x15, .int x19]) (rest := [.int 2, .ref a11]) (ci := 9) rfl rfl C0 lv_X9_113 (b_X9_added e23) hW hS e22 rfl hl.1 rfl (Nat.le_of_ble_eq_true rfl) dX9_toldOfBoth_44 rfl rfl ⟨Nat.le_of_ble_eq_true rfl, Nat.le_of_ble_eq_true rfl⟩ ⟨Nat.le_refl _, Nat.le_refl _⟩) hS (fun H locs hW hS => ?_)
  replace hm := ob hm; obtain ⟨σ25, e26, hm⟩ := hm
  refine r_uI C0 hW hS e26 dX9_toldOfBoth_47 (fun H locs hW hS => ?_)
  refine lv_aload_n hx hb dX9_toldOfBoth_48 rfl (lv_at hl 0 rfl) ?_
  replace hm := ob hm; obtain ⟨a27, e28, hm⟩ := hm
  refine r_getA C0 hW fl_X9_28 e28 dX9_toldOfBoth_49 ?_
  refine lv_iconst (v := 0) hx hb dX9_toldOfBoth_52 (by decide) ?_
  replace hm := ob hm; obtain ⟨x30, e29, hm⟩ := hm
  refine z_calli (z_runS (As := [.ref a27, .int 0]) (rest := []) C0 ls_X9_92 (b_X9_told e29) hW hS rfl hl.1 rfl (Nat.le_of_ble_eq_true rfl) dX9_toldOfBoth_53 rfl rfl ⟨Nat.le_of_ble_eq_true rfl, Nat.le_of_ble_eq_true rfl⟩ ⟨Nat.le_refl _, Nat.le_refl _⟩) hS (fun H locs hW hS => ?_)
  obtain ⟨hq8, hq9⟩ := Prod.mk.inj (Option.some.inj hm); subst hq8; subst hq9
  exact r_iret C0 hr hlocks hW hS dX9_toldOfBoth_56
set_option maxHeartbeats 4000000 in
set_option maxRecDepth 100000 in
theorem b_X9_both {l : Launch} {D : va_G} {ca : Nat → ClassId} {A : Nat → Prop} {N : Nat} {σ : zS} {v0 : Nat} {v1 : Int32} {v2 : Int32} {v3 : Int32} {r0 : Int32} {σ' : zS} (hm : m_X9_both N σ v0 v1 v2 v3 = some (r0, σ')) : Met l yX9_both (.code yX9_both cX9_both 6 (some .int) :: wsL_law) ({ frames := 5, cells := 0, slots := 0, locals := 114 } : Room) (va_Pc [.ref v0, .int v1, .int v2, .int v3] (zP D ca A σ)) (zQi r0 D ca A σ') 0 0 A := by
  refine zMk (by decide +kernel) (Nat.le_of_ble_eq_true rfl) ?_
  intro p e s m below meth c C0 hr hlocks hin hW ls hl
  have hx := C0.1
  have hb := C0.2.1
  have hS : va_S A s.heap s.heap [] := va_S.rf
  have hl : lv_has ls 6 [(0, .ref v0), (1, .int v1), (2, .int v2), (3, .int v3)] := hl
  unfold m_X9_both at hm
  refine lv_aload_n hx hb dX9_both_0 rfl (lv_at hl 0 rfl) ?_
  refine lv_iload_n hx hb dX9_both_1 rfl (lv_at hl 1 rfl) ?_
  replace hm := ob hm; obtain ⟨u1, e2, hm⟩ := hm
  replace hm := ob hm; obtain ⟨x4, e3, hm⟩ := hm
  refine z_calli (z_runV (As := [.int v1]) (rest := []) (ci := 9) rfl rfl C0 lv_X9_116 (b_X9_isTable e3) hW hS e2 rfl hl.1 rfl (Nat.le_of_ble_eq_true rfl) dX9_both_2 rfl rfl ⟨Nat.le_of_ble_eq_true rfl, Nat.le_of_ble_eq_true rfl⟩ ⟨Nat.le_refl _, Nat.le_refl _⟩) hS (fun H locs hW hS => ?_)
  refine lv_if_eq (tgt := 25) hx hb dX9_both_5 (by decide) (fun h5 => ?_) (fun h5 => ?_)
  · rw [if_pos h5] at hm
    refine lv_iconst (v := (-1)) hx hb dX9_both_25 (by decide) ?_
    obtain ⟨hq8, hq9⟩ := Prod.mk.inj (Option.some.inj hm); subst hq8; subst hq9
    exact r_iret C0 hr hlocks hW hS dX9_both_26
  · rw [if_neg h5] at hm
    refine lv_aload_n hx hb dX9_both_8 rfl (lv_at hl 0 rfl) ?_
    refine lv_iload_n hx hb dX9_both_9 rfl (lv_at hl 2 rfl) ?_
    replace hm := ob hm; obtain ⟨u6, e7, hm⟩ := hm
    replace hm := ob hm; obtain ⟨x9, e8, hm⟩ := hm
    refine z_calli (z_runV (As := [.int v2]) (rest := []) (ci := 9) rfl rfl C0 lv_X9_116 (b_X9_isTable e8) hW hS e7 rfl hl.1 rfl (Nat.le_of_ble_eq_true rfl) dX9_both_10 rfl rfl ⟨Nat.le_of_ble_eq_true rfl, Nat.le_of_ble_eq_true rfl⟩ ⟨Nat.le_refl _, Nat.le_refl _⟩) hS (fun H locs hW hS => ?_)
    refine lv_if_eq (tgt := 25) hx hb dX9_both_13 (by decide) (fun h10 => ?_) (fun h10 => ?_)
    · rw [if_pos h10] at hm
      refine lv_iconst (v := (-1)) hx hb dX9_both_25 (by decide) ?_
      obtain ⟨hq8, hq9⟩ := Prod.mk.inj (Option.some.inj hm); subst hq8; subst hq9
      exact r_iret C0 hr hlocks hW hS dX9_both_26
    · rw [if_neg h10] at hm
      refine lv_iload_n hx hb dX9_both_16 rfl (lv_at hl 3 rfl) ?_
      refine lv_iconst (v := 0) hx hb dX9_both_17 (by decide) ?_
      refine lv_iconst (v := 3) hx hb dX9_both_18 (by decide) ?_
      replace hm := ob hm; obtain ⟨x12, e11, hm⟩ := hm
      refine z_calli (z_runS (As := [.int v3, .int 0, .int 3]) (rest := []) C0 ls_X9_49 (b_X9_in e11) hW hS rfl hl.1 rfl (Nat.le_of_ble_eq_true rfl) dX9_both_19 rfl rfl ⟨Nat.le_of_ble_eq_true rfl, Nat.le_of_ble_eq_true rfl⟩ ⟨Nat.le_refl _, Nat.le_refl _⟩) hS (fun H locs hW hS => ?_)
      refine lv_if_ne (tgt := 27) hx hb dX9_both_22 (by decide) (fun h13 => ?_) (fun h13 => ?_)
      · rw [if_neg h13] at hm
        refine lv_iload_n hx hb dX9_both_27 rfl (lv_at hl 3 rfl) ?_
        refine lv_iconst (v := 2) hx hb dX9_both_28 (by decide) ?_
        refine r_irem hx hb dX9_both_29 (by decide) ?_
        refine lv_iconst (v := 1) hx hb dX9_both_30 (by decide) ?_
        refine lv_icmp_ne (tgt := 51) hx hb dX9_both_31 (by decide) (fun h14 => ?_) (fun h14 => ?_)
        · rw [if_neg h14] at hm
          refine lv_aload_n hx hb dX9_both_51 rfl (lv_at hl 0 rfl) ?_
          refine lv_iload_n hx hb dX9_both_52 rfl (lv_at hl 1 rfl) ?_
          refine lv_iload_n hx hb dX9_both_53 rfl (lv_at hl 2 rfl) ?_
          replace hm := ob hm; obtain ⟨u15, e16, hm⟩ := hm
          replace hm := ob hm; obtain ⟨x18, e17, hm⟩ := hm
          refine z_calli (z_runV (As := [.int v1, .int v2]) (rest := []) (ci := 9) rfl rfl C0 lv_X9_127 (b_X9_areAlike e17) hW hS e16 rfl hl.1 rfl (Nat.le_of_ble_eq_true rfl) dX9_both_54 rfl rfl ⟨Nat.le_of_ble_eq_true rfl, Nat.le_of_ble_eq_true rfl⟩ ⟨Nat.le_refl _, Nat.le_refl _⟩) hS (fun H locs hW hS => ?_)
          refine lv_if_ne (tgt := 63) hx hb dX9_both_57 (by decide) (fun h19 => ?_) (fun h19 => ?_)
          · rw [if_neg h19] at hm
            refine lv_aload_n hx hb dX9_both_63 rfl (lv_at hl 0 rfl) ?_
            refine lv_iload_n hx hb dX9_both_64 rfl (lv_at hl 1 rfl) ?_
            refine lv_iload_n hx hb dX9_both_65 rfl (lv_at hl 2 rfl) ?_
            replace hm := ob hm; obtain ⟨u20, e21, hm⟩ := hm
            replace hm := o2 hm; obtain ⟨x24, σ23, e22, hm⟩ := hm
            refine z_calli (z_runV (As := [.int v1, .int v2]) (rest := []) (ci := 9) rfl rfl C0 lv_X9_190 (b_X9_toldOfBoth e22) hW hS e21 rfl hl.1 rfl (Nat.le_of_ble_eq_true rfl) dX9_both_66 rfl rfl ⟨Nat.le_of_ble_eq_true rfl, Nat.le_of_ble_eq_true rfl⟩ ⟨Nat.le_refl _, Nat.le_refl _⟩) hS (fun H locs hW hS => ?_)
            refine lv_istore (lv' := [(4, .int x24), (0, .ref v0), (1, .int v1), (2, .int v2), (3, .int v3)]) hx hb dX9_both_69 hl (by decide) rfl (fun ls hl => ?_)
            refine lv_aload_n hx hb dX9_both_71 rfl (lv_at hl 1 rfl) ?_
            refine lv_iload_n hx hb dX9_both_72 rfl (lv_at hl 2 rfl) ?_
            replace hm := ob hm; obtain ⟨u25, e26, hm⟩ := hm
            replace hm := ob hm; obtain ⟨x28, e27, hm⟩ := hm
            refine z_calli (z_runV (As := [.int v1]) (rest := []) (ci := 9) rfl rfl C0 lv_X9_95 (b_X9_toldOf e27) hW hS e26 rfl hl.1 rfl (Nat.le_of_ble_eq_true rfl) dX9_both_73 rfl rfl ⟨Nat.le_of_ble_eq_true rfl, Nat.le_of_ble_eq_true rfl⟩ ⟨Nat.le_refl _, Nat.le_refl _⟩) hS (fun H locs hW hS => ?_)
            refine lv_aload_n hx hb dX9_both_76 rfl (lv_at hl 1 rfl) ?_
            refine lv_iload_n hx hb dX9_both_77 rfl (lv_at hl 3 rfl) ?_
            replace hm := ob hm; obtain ⟨u29, e30, hm⟩ := hm
            replace hm := ob hm; obtain ⟨x32, e31, hm⟩ := hm
            refine z_calli (z_runV (As := [.int v2]) (rest := [.int x28]) (ci := 9) rfl rfl C0 lv_X9_95 (b_X9_toldOf e31) hW hS e30 rfl hl.1 rfl (Nat.le_of_ble_eq_true rfl) dX9_both_78 rfl rfl ⟨Nat.le_of_ble_eq_true rfl, Nat.le_of_ble_eq_true rfl⟩ ⟨Nat.le_refl _, Nat.le_refl _⟩) hS (fun H locs hW hS => ?_)
            refine lv_iadd hx hb dX9_both_81 ?_
            refine lv_iload hx hb dX9_both_82 (lv_at hl 0 rfl) ?_
            refine lv_isub hx hb dX9_both_84 ?_
            replace hm := ob hm; obtain ⟨x33, e34, hm⟩ := hm
            refine z_top e34 ?_
            refine lv_istore (lv' := [(5, .int x33), (4, .int x24), (0, .ref v0), (1, .int v1), (2, .int v2), (3, .int v3)]) hx hb dX9_both_85 hl (by decide) rfl (fun ls hl => ?_)
            refine lv_iload_n hx hb dX9_both_87 rfl (lv_at hl 5 rfl) ?_
            refine lv_if_ne (tgt := 96) hx hb dX9_both_88 (by decide) (fun h35 => ?_) (fun h35 => ?_)
            · rw [if_neg h35] at hm
              refine lv_iload hx hb dX9_both_96 (lv_at hl 0 rfl) ?_
              refine lv_if_ge (tgt := 105) hx hb dX9_both_98 (by decide) (fun h36 => ?_) (fun h36 => ?_)
              · rw [if_pos h36] at hm
                refine lv_iload hx hb dX9_both_105 (lv_at hl 0 rfl) ?_
                obtain ⟨hq8, hq9⟩ := Prod.mk.inj (Option.some.inj hm); subst hq8; subst hq9
                exact r_iret C0 hr hlocks hW hS dX9_both_107
              · rw [if_neg h36] at hm
                refine lv_iconst (v := 0) hx hb dX9_both_101 (by decide) ?_
                refine lv_goto (tgt := 107) hx hb dX9_both_102 (by decide) ?_
                obtain ⟨hq8, hq9⟩ := Prod.mk.inj (Option.some.inj hm); subst hq8; subst hq9
                exact r_iret C0 hr hlocks hW hS dX9_both_107
            · rw [if_pos h35] at hm
              refine lv_iload hx hb dX9_both_91 (lv_at hl 1 rfl) ?_
              refine lv_goto (tgt := 107) hx hb dX9_both_93 (by decide) ?_
              obtain ⟨hq8, hq9⟩ := Prod.mk.inj (Option.some.inj hm); subst hq8; subst hq9
              exact r_iret C0 hr hlocks hW hS dX9_both_107
          · rw [if_pos h19] at hm
            refine lv_bipush (v := (-2)) hx hb dX9_both_60 (by decide) ?_
            obtain ⟨hq8, hq9⟩ := Prod.mk.inj (Option.some.inj hm); subst hq8; subst hq9
            exact r_iret C0 hr hlocks hW hS dX9_both_62
        · rw [if_pos h14] at hm
          refine lv_aload_n hx hb dX9_both_34 rfl (lv_at hl 0 rfl) ?_
          refine lv_iload_n hx hb dX9_both_35 rfl (lv_at hl 1 rfl) ?_
          refine lv_iload_n hx hb dX9_both_36 rfl (lv_at hl 2 rfl) ?_
          refine lv_iload_n hx hb dX9_both_37 rfl (lv_at hl 3 rfl) ?_
          refine lv_iconst (v := 1) hx hb dX9_both_38 (by decide) ?_
          replace hm := ob hm; obtain ⟨y39, e44, hm⟩ := hm
          have J47_37 : ∀ (H : Heap) (locs : List Loc) (ls : Array Slot), zW D ca A σ H → va_S A s.heap H locs → lv_has ls 6 [] → W p l e ({ frames := 5, cells := 0, slots := 0, locals := 114 } : Room) s m (List.toArray [.ref v0, .int v1, .int v2, .int v3]) below meth c H locs 0 0 (MQ below (zQi r0 D ca A σ') (List.toArray [.ref v0, .int v1, .int v2, .int v3]) s 0 0 A) (F0 m 47 ls [.int y39, .int v2, .int v1, .ref v0]) := by
            intro H locs ls hW hS hl
            replace hm := ob hm; obtain ⟨u40, e41, hm⟩ := hm
            replace hm := ob hm; obtain ⟨x43, e42, hm⟩ := hm
            refine z_calli (z_runV (As := [.int v1, .int v2, .int y39]) (rest := []) (ci := 9) rfl rfl C0 lv_X9_186 (b_X9_seenByBoth e42) hW hS e41 rfl hl.1 rfl (Nat.le_of_ble_eq_true rfl) dX9_both_47 rfl rfl ⟨Nat.le_of_ble_eq_true rfl, Nat.le_of_ble_eq_true rfl⟩ ⟨Nat.le_refl _, Nat.le_refl _⟩) hS (fun H locs hW hS => ?_)
            obtain ⟨hq8, hq9⟩ := Prod.mk.inj (Option.some.inj hm); subst hq8; subst hq9
            exact r_iret C0 hr hlocks hW hS dX9_both_50
          clear hm
          have hm := e44
          clear e44
          refine lv_icmp_ne (tgt := 46) hx hb dX9_both_39 (by decide) (fun h37 => ?_) (fun h37 => ?_)
          · rw [if_neg h37] at hm
            refine lv_iconst (v := 2) hx hb dX9_both_46 (by decide) ?_
            have hq1 := Option.some.inj hm; subst hq1
            exact J47_37 _ _ _ hW hS (lv_sub hl [] rfl)
          · rw [if_pos h37] at hm
            refine lv_iconst (v := 1) hx hb dX9_both_42 (by decide) ?_
            refine lv_goto (tgt := 47) hx hb dX9_both_43 (by decide) ?_
            have hq1 := Option.some.inj hm; subst hq1
            exact J47_37 _ _ _ hW hS (lv_sub hl [] rfl)
      · rw [if_pos h13] at hm
        refine lv_iconst (v := (-1)) hx hb dX9_both_25 (by decide) ?_
        obtain ⟨hq8, hq9⟩ := Prod.mk.inj (Option.some.inj hm); subst hq8; subst hq9
        exact r_iret C0 hr hlocks hW hS dX9_both_26
set_option maxHeartbeats 4000000 in
set_option maxRecDepth 100000 in
theorem b_X9_brings {l : Launch} {D : va_G} {ca : Nat → ClassId} {A : Nat → Prop} {N : Nat} {σ : zS} {v0 : Nat} {v1 : Int32} {σ' : zS} (hm : m_X9_brings N σ v0 v1 = some σ') : Met l yX9_brings (.code yX9_brings cX9_brings 2 none :: wsL_law) ({ frames := 1, cells := 0, slots := 0, locals := 22 } : Room) (va_Pc [.ref v0, .int v1] (zP D ca A σ)) (zQv D ca A σ') 0 0 A := by
  refine zMk (by decide +kernel) (Nat.le_of_ble_eq_true rfl) ?_
  intro p e s m below meth c C0 hr hlocks hin hW ls hl
  have hx := C0.1
  have hb := C0.2.1
  have hS : va_S A s.heap s.heap [] := va_S.rf
  have hl : lv_has ls 2 [(0, .ref v0), (1, .int v1)] := hl
  unfold m_X9_brings at hm
  refine lv_iload_n hx hb dX9_brings_0 rfl (lv_at hl 1 rfl) ?_
  by_cases h1 : v1 = 0
  · rw [if_pos h1] at hm
    refine z_top (congrArg some h1) ?_
    refine lv_tableIn (tgt := 28) hx hb dX9_brings_1 (by decide) (by decide) rfl (by decide) ?_
    refine lv_aload_n hx hb dX9_brings_28 rfl (lv_at hl 0 rfl) ?_
    replace hm := ob hm; obtain ⟨a2, e3, hm⟩ := hm
    refine r_getA C0 hW fl_X9_16 e3 dX9_brings_29 ?_
    refine lv_aload_n hx hb dX9_brings_32 rfl (lv_at hl 0 rfl) ?_
    replace hm := ob hm; obtain ⟨a4, e5, hm⟩ := hm
    refine r_getA C0 hW fl_X9_7 e5 dX9_brings_33 ?_
    replace hm := ob hm; obtain ⟨σ7, e6, hm⟩ := hm
    refine z_callv (z_runS (As := [.ref a2, .ref a4]) (rest := []) C0 ls_X9_34 (b_X9_copy e6) hW hS rfl hl.1 rfl (Nat.le_of_ble_eq_true rfl) dX9_brings_36 rfl rfl ⟨Nat.le_of_ble_eq_true rfl, Nat.le_of_ble_eq_true rfl⟩ ⟨Nat.le_refl _, Nat.le_refl _⟩) hS (fun H locs hW hS => ?_)
    refine lv_goto (tgt := 81) hx hb dX9_brings_39 (by decide) ?_
    cases hm
    exact r_vret C0 hr hlocks hW hS dX9_brings_81
  · rw [if_neg h1] at hm
    by_cases h8 : v1 = 1
    · rw [if_pos h8] at hm
      refine z_top (congrArg some h8) ?_
      refine lv_tableIn (tgt := 42) hx hb dX9_brings_1 (by decide) (by decide) rfl (by decide) ?_
      refine lv_aload_n hx hb dX9_brings_42 rfl (lv_at hl 0 rfl) ?_
      replace hm := ob hm; obtain ⟨a9, e10, hm⟩ := hm
      refine r_getA C0 hW fl_X9_19 e10 dX9_brings_43 ?_
      refine lv_aload_n hx hb dX9_brings_46 rfl (lv_at hl 0 rfl) ?_
      replace hm := ob hm; obtain ⟨a11, e12, hm⟩ := hm
      refine r_getA C0 hW fl_X9_7 e12 dX9_brings_47 ?_
      replace hm := ob hm; obtain ⟨σ14, e13, hm⟩ := hm
      refine z_callv (z_runS (As := [.ref a9, .ref a11]) (rest := []) C0 ls_X9_34 (b_X9_copy e13) hW hS rfl hl.1 rfl (Nat.le_of_ble_eq_true rfl) dX9_brings_50 rfl rfl ⟨Nat.le_of_ble_eq_true rfl, Nat.le_of_ble_eq_true rfl⟩ ⟨Nat.le_refl _, Nat.le_refl _⟩) hS (fun H locs hW hS => ?_)
      refine lv_goto (tgt := 81) hx hb dX9_brings_53 (by decide) ?_
      cases hm
      exact r_vret C0 hr hlocks hW hS dX9_brings_81
    · rw [if_neg h8] at hm
      by_cases h15 : v1 = 2
      · rw [if_pos h15] at hm
        refine z_top (congrArg some h15) ?_
        refine lv_tableIn (tgt := 56) hx hb dX9_brings_1 (by decide) (by decide) rfl (by decide) ?_
        refine lv_aload_n hx hb dX9_brings_56 rfl (lv_at hl 0 rfl) ?_
        replace hm := ob hm; obtain ⟨a16, e17, hm⟩ := hm
        refine r_getA C0 hW fl_X9_22 e17 dX9_brings_57 ?_
        refine lv_aload_n hx hb dX9_brings_60 rfl (lv_at hl 0 rfl) ?_
        replace hm := ob hm; obtain ⟨a18, e19, hm⟩ := hm
        refine r_getA C0 hW fl_X9_7 e19 dX9_brings_61 ?_
        replace hm := ob hm; obtain ⟨σ21, e20, hm⟩ := hm
        refine z_callv (z_runS (As := [.ref a16, .ref a18]) (rest := []) C0 ls_X9_34 (b_X9_copy e20) hW hS rfl hl.1 rfl (Nat.le_of_ble_eq_true rfl) dX9_brings_64 rfl rfl ⟨Nat.le_of_ble_eq_true rfl, Nat.le_of_ble_eq_true rfl⟩ ⟨Nat.le_refl _, Nat.le_refl _⟩) hS (fun H locs hW hS => ?_)
        refine lv_goto (tgt := 81) hx hb dX9_brings_67 (by decide) ?_
        cases hm
        exact r_vret C0 hr hlocks hW hS dX9_brings_81
      · rw [if_neg h15] at hm
        refine lv_tableOut (tgt := 70) hx hb dX9_brings_1 (by have q0 := zne (a := 0) h1 (by decide); have q1 := zne (a := 1) h8 (by decide); have q2 := zne (a := 2) h15 (by decide); omega) (by decide) ?_
        refine lv_aload_n hx hb dX9_brings_70 rfl (lv_at hl 0 rfl) ?_
        replace hm := ob hm; obtain ⟨a22, e23, hm⟩ := hm
        refine r_getA C0 hW fl_X9_25 e23 dX9_brings_71 ?_
        refine lv_aload_n hx hb dX9_brings_74 rfl (lv_at hl 0 rfl) ?_
        replace hm := ob hm; obtain ⟨a24, e25, hm⟩ := hm
        refine r_getA C0 hW fl_X9_7 e25 dX9_brings_75 ?_
        replace hm := ob hm; obtain ⟨σ27, e26, hm⟩ := hm
        refine z_callv (z_runS (As := [.ref a22, .ref a24]) (rest := []) C0 ls_X9_34 (b_X9_copy e26) hW hS rfl hl.1 rfl (Nat.le_of_ble_eq_true rfl) dX9_brings_78 rfl rfl ⟨Nat.le_of_ble_eq_true rfl, Nat.le_of_ble_eq_true rfl⟩ ⟨Nat.le_refl _, Nat.le_refl _⟩) hS (fun H locs hW hS => ?_)
        cases hm
        exact r_vret C0 hr hlocks hW hS dX9_brings_81
set_option maxHeartbeats 4000000 in
set_option maxRecDepth 100000 in
theorem w_X9_byError_L25 {p : Program} {l : Launch} {e : Env} {s : State} {m : MethodId} {args : Array Value} {below : List Frame} {meth : Method} {c : Code} {D : va_G} {ca : Nat → ClassId} {A : Nat → Prop} {Q : State → Prop} (N : Nat) : ∀ (n : Nat) {σ : zS} {v0 : Nat} {v1 : Int32} {v2 : Int32} {v3 : Int32} {v4 : Int32} {y3 : Int32} {H : Heap} {locs : List Loc} {ls : Array Slot}, m_X9_byError_L25 N n σ v0 v1 v2 v3 v4 = some y3 → zC p s m args c RX9 cX9_byError 5 D ca A → zW D ca A σ H → va_S A s.heap H locs → lv_has ls 5 [(0, .ref v0), (1, .int v1), (2, .int v2), (3, .int v3), (4, .int v4)] → (∀ (H : Heap) (locs : List Loc) (ls : Array Slot), zW D ca A σ H → va_S A s.heap H locs → lv_has ls 5 [(0, .ref v0), (1, .int v1), (2, .int v2), (3, .int y3)] → W p l e ({ frames := 7, cells := 0, slots := 0, locals := 156 } : Room) s m args below meth c H locs 0 0 Q (F0 m 86 ls [])) → W p l e ({ frames := 7, cells := 0, slots := 0, locals := 156 } : Room) s m args below meth c H locs 0 0 Q (F0 m 25 ls []) := by
  intro n
  induction n with
  | zero =>
    intro σ v0 v1 v2 v3 v4 y3 H locs ls hm C0 hW hS hl kk
    rw [m_X9_byError_L25] at hm
    cases hm
  | succ n ih =>
    intro σ v0 v1 v2 v3 v4 y3 H locs ls hm C0 hW hS hl kk
    rw [m_X9_byError_L25] at hm
    have hx := C0.1
    have hb := C0.2.1
    refine lv_iload hx hb dX9_byError_25 (lv_at hl 4 rfl) ?_
    refine lv_aload_n hx hb dX9_byError_27 rfl (lv_at hl 0 rfl) ?_
    replace hm := ob hm; obtain ⟨a7, e8, hm⟩ := hm
    refine r_getA C0 hW fl_X9_7 e8 dX9_byError_28 ?_
    refine lv_sipush (v := 138) hx hb dX9_byError_31 (by decide) ?_
    replace hm := ob hm; obtain ⟨x9, e10, hm⟩ := hm
    refine r_aI C0 hW e10 dX9_byError_34 ?_
    refine lv_icmp_ge (tgt := 86) hx hb dX9_byError_35 (by decide) (fun h11 => ?_) (fun h11 => ?_)
    · rw [if_pos h11] at hm
      cases hm
      exact kk _ _ _ hW hS (lv_sub hl [0, 1, 2, 3] rfl)
    · rw [if_neg h11] at hm
      refine lv_iload_n hx hb dX9_byError_38 rfl (lv_at hl 3 rfl) ?_
      refine lv_aload_n hx hb dX9_byError_39 rfl (lv_at hl 0 rfl) ?_
      refine lv_iload hx hb dX9_byError_40 (lv_at hl 4 rfl) ?_
      replace hm := ob hm; obtain ⟨u12, e13, hm⟩ := hm
      replace hm := ob hm; obtain ⟨x15, e14, hm⟩ := hm
      refine z_calli (z_runV (As := [.int v4]) (rest := [.int v3]) (ci := 9) rfl rfl C0 lv_X9_183 (b_X9_amount e14) hW hS e13 rfl hl.1 rfl (Nat.le_of_ble_eq_true rfl) dX9_byError_42 rfl rfl ⟨Nat.le_of_ble_eq_true rfl, Nat.le_of_ble_eq_true rfl⟩ ⟨Nat.le_refl _, Nat.le_refl _⟩) hS (fun H locs hW hS => ?_)
      refine lv_aload_n hx hb dX9_byError_45 rfl (lv_at hl 0 rfl) ?_
      refine lv_iload_n hx hb dX9_byError_46 rfl (lv_at hl 2 rfl) ?_
      replace hm := ob hm; obtain ⟨u16, e17, hm⟩ := hm
      replace hm := ob hm; obtain ⟨x19, e18, hm⟩ := hm
      refine z_calli (z_runV (As := [.int v2]) (rest := [.int x15, .int v3]) (ci := 9) rfl rfl C0 lv_X9_183 (b_X9_amount e18) hW hS e17 rfl hl.1 rfl (Nat.le_of_ble_eq_true rfl) dX9_byError_47 rfl rfl ⟨Nat.le_of_ble_eq_true rfl, Nat.le_of_ble_eq_true rfl⟩ ⟨Nat.le_refl _, Nat.le_refl _⟩) hS (fun H locs hW hS => ?_)
      replace hm := ob hm; obtain ⟨y32, e37, hm⟩ := hm
      have J78_20 : ∀ (H : Heap) (locs : List Loc) (ls : Array Slot), zW D ca A σ H → va_S A s.heap H locs → lv_has ls 5 [(0, .ref v0), (1, .int v1), (2, .int v2), (4, .int v4)] → W p l e ({ frames := 7, cells := 0, slots := 0, locals := 156 } : Room) s m args below meth c H locs 0 0 Q (F0 m 78 ls [.int y32, .int v3]) := by
        intro H locs ls hW hS hl
        refine lv_iadd hx hb dX9_byError_78 ?_
        replace hm := ob hm; obtain ⟨x33, e34, hm⟩ := hm
        refine z_top e34 ?_
        refine lv_istore_n (lv' := [(3, .int x33), (0, .ref v0), (1, .int v1), (2, .int v2), (4, .int v4)]) hx hb dX9_byError_79 rfl hl (by decide) rfl (fun ls hl => ?_)
        replace hm := ob hm; obtain ⟨x35, e36, hm⟩ := hm
        refine lv_iinc (v := x35) (lv' := [(4, .int x35), (3, .int x33), (0, .ref v0), (1, .int v1), (2, .int v2)]) hx hb dX9_byError_80 hl (k := 4) rfl (Option.some.inj e36) (by decide) rfl (fun ls hl => ?_)
        refine lv_goto (tgt := 25) hx hb dX9_byError_83 (by decide) ?_
        exact ih hm C0 hW hS (lv_sub hl [2, 3, 4, 1, 0] rfl) kk
      clear hm
      have hm := e37
      clear e37
      refine lv_icmp_gt (tgt := 73) hx hb dX9_byError_50 (by decide) (fun h20 => ?_) (fun h20 => ?_)
      · rw [if_pos h20] at hm
        refine lv_iconst (v := 1) hx hb dX9_byError_73 (by decide) ?_
        refine lv_goto (tgt := 78) hx hb dX9_byError_74 (by decide) ?_
        have hq1 := Option.some.inj hm; subst hq1
        exact J78_20 _ _ _ hW hS (lv_sub hl [0, 1, 2, 4] rfl)
      · rw [if_neg h20] at hm
        refine lv_aload_n hx hb dX9_byError_53 rfl (lv_at hl 0 rfl) ?_
        refine lv_iload hx hb dX9_byError_54 (lv_at hl 4 rfl) ?_
        replace hm := ob hm; obtain ⟨u22, e23, hm⟩ := hm
        replace hm := ob hm; obtain ⟨x25, e24, hm⟩ := hm
        refine z_calli (z_runV (As := [.int v4]) (rest := [.int v3]) (ci := 9) rfl rfl C0 lv_X9_183 (b_X9_amount e24) hW hS e23 rfl hl.1 rfl (Nat.le_of_ble_eq_true rfl) dX9_byError_56 rfl rfl ⟨Nat.le_of_ble_eq_true rfl, Nat.le_of_ble_eq_true rfl⟩ ⟨Nat.le_refl _, Nat.le_refl _⟩) hS (fun H locs hW hS => ?_)
        refine lv_aload_n hx hb dX9_byError_59 rfl (lv_at hl 0 rfl) ?_
        refine lv_iload_n hx hb dX9_byError_60 rfl (lv_at hl 2 rfl) ?_
        replace hm := ob hm; obtain ⟨u26, e27, hm⟩ := hm
        replace hm := ob hm; obtain ⟨x29, e28, hm⟩ := hm
        refine z_calli (z_runV (As := [.int v2]) (rest := [.int x25, .int v3]) (ci := 9) rfl rfl C0 lv_X9_183 (b_X9_amount e28) hW hS e27 rfl hl.1 rfl (Nat.le_of_ble_eq_true rfl) dX9_byError_61 rfl rfl ⟨Nat.le_of_ble_eq_true rfl, Nat.le_of_ble_eq_true rfl⟩ ⟨Nat.le_refl _, Nat.le_refl _⟩) hS (fun H locs hW hS => ?_)
        refine lv_icmp_ne (tgt := 77) hx hb dX9_byError_64 (by decide) (fun h30 => ?_) (fun h30 => ?_)
        · rw [if_neg h30] at hm
          refine lv_iconst (v := 0) hx hb dX9_byError_77 (by decide) ?_
          have hq1 := Option.some.inj hm; subst hq1
          exact J78_20 _ _ _ hW hS (lv_sub hl [0, 1, 2, 4] rfl)
        · rw [if_pos h30] at hm
          refine lv_iload hx hb dX9_byError_67 (lv_at hl 4 rfl) ?_
          refine lv_iload_n hx hb dX9_byError_69 rfl (lv_at hl 2 rfl) ?_
          refine lv_icmp_ge (tgt := 77) hx hb dX9_byError_70 (by decide) (fun h31 => ?_) (fun h31 => ?_)
          · rw [if_pos h31] at hm
            refine lv_iconst (v := 0) hx hb dX9_byError_77 (by decide) ?_
            have hq1 := Option.some.inj hm; subst hq1
            exact J78_20 _ _ _ hW hS (lv_sub hl [0, 1, 2, 4] rfl)
          · rw [if_neg h31] at hm
            refine lv_iconst (v := 1) hx hb dX9_byError_73 (by decide) ?_
            refine lv_goto (tgt := 78) hx hb dX9_byError_74 (by decide) ?_
            have hq1 := Option.some.inj hm; subst hq1
            exact J78_20 _ _ _ hW hS (lv_sub hl [0, 1, 2, 4] rfl)
set_option maxHeartbeats 4000000 in
set_option maxRecDepth 100000 in
theorem w_X9_byError_L8 {p : Program} {l : Launch} {e : Env} {s : State} {m : MethodId} {args : Array Value} {below : List Frame} {meth : Method} {c : Code} {D : va_G} {ca : Nat → ClassId} {A : Nat → Prop} {Q : State → Prop} (N : Nat) : ∀ (n : Nat) {σ : zS} {v0 : Nat} {v1 : Int32} {v2 : Int32} {res : (Int32) ⊕ (Unit)} {H : Heap} {locs : List Loc} {ls : Array Slot}, m_X9_byError_L8 N n σ v0 v1 v2 = some res → zC p s m args c RX9 cX9_byError 5 D ca A → zW D ca A σ H → va_S A s.heap H locs → lv_has ls 5 [(0, .ref v0), (1, .int v1), (2, .int v2)] → (∀ (r : Int32), res = .inl r → ∀ (pc : Nat) (H : Heap) (locs : List Loc) (ls : Array Slot), decode cX9_byError pc = .ok (.ireturn, 1) → zW D ca A σ H → va_S A s.heap H locs → W p l e ({ frames := 7, cells := 0, slots := 0, locals := 156 } : Room) s m args below meth c H locs 0 0 Q (F0 m pc ls [.int r])) → (res = .inr () → ∀ (H : Heap) (locs : List Loc) (ls : Array Slot), zW D ca A σ H → va_S A s.heap H locs → lv_has ls 5 [] → W p l e ({ frames := 7, cells := 0, slots := 0, locals := 156 } : Room) s m args below meth c H locs 0 0 Q (F0 m 99 ls [])) → W p l e ({ frames := 7, cells := 0, slots := 0, locals := 156 } : Room) s m args below meth c H locs 0 0 Q (F0 m 8 ls []) := by
  intro n
  induction n with
  | zero =>
    intro σ v0 v1 v2 res H locs ls hm C0 hW hS hl kr kk
    rw [m_X9_byError_L8] at hm
    cases hm
  | succ n ih =>
    intro σ v0 v1 v2 res H locs ls hm C0 hW hS hl kr kk
    rw [m_X9_byError_L8] at hm
    have hx := C0.1
    have hb := C0.2.1
    refine lv_iload_n hx hb dX9_byError_8 rfl (lv_at hl 2 rfl) ?_
    refine lv_aload_n hx hb dX9_byError_9 rfl (lv_at hl 0 rfl) ?_
    replace hm := ob hm; obtain ⟨a2, e3, hm⟩ := hm
    refine r_getA C0 hW fl_X9_7 e3 dX9_byError_10 ?_
    refine lv_sipush (v := 138) hx hb dX9_byError_13 (by decide) ?_
    replace hm := ob hm; obtain ⟨x4, e5, hm⟩ := hm
    refine r_aI C0 hW e5 dX9_byError_16 ?_
    refine lv_icmp_ge (tgt := 99) hx hb dX9_byError_17 (by decide) (fun h6 => ?_) (fun h6 => ?_)
    · rw [if_pos h6] at hm
      cases hm
      exact kk  rfl _ _ _ hW hS (lv_sub hl [] rfl)
    · rw [if_neg h6] at hm
      refine lv_iconst (v := 0) hx hb dX9_byError_20 (by decide) ?_
      refine lv_istore_n (lv' := [(3, .int 0), (0, .ref v0), (1, .int v1), (2, .int v2)]) hx hb dX9_byError_21 rfl hl (by decide) rfl (fun ls hl => ?_)
      refine lv_iconst (v := 0) hx hb dX9_byError_22 (by decide) ?_
      refine lv_istore (lv' := [(4, .int 0), (3, .int 0), (0, .ref v0), (1, .int v1), (2, .int v2)]) hx hb dX9_byError_23 hl (by decide) rfl (fun ls hl => ?_)
      replace hm := ob hm; obtain ⟨y38, e39, hm⟩ := hm
      refine w_X9_byError_L25 N N e39 C0 hW hS (lv_sub hl [2, 3, 4, 1, 0] rfl) (fun H locs ls hW hS hl => ?_)
      refine lv_iload_n hx hb dX9_byError_86 rfl (lv_at hl 3 rfl) ?_
      refine lv_iload_n hx hb dX9_byError_87 rfl (lv_at hl 1 rfl) ?_
      refine lv_icmp_ne (tgt := 93) hx hb dX9_byError_88 (by decide) (fun h40 => ?_) (fun h40 => ?_)
      · rw [if_neg h40] at hm
        replace hm := ob hm; obtain ⟨x41, e42, hm⟩ := hm
        refine lv_iinc (v := x41) (lv' := [(2, .int x41), (0, .ref v0), (1, .int v1), (3, .int y38)]) hx hb dX9_byError_93 hl (k := 2) rfl (Option.some.inj e42) (by decide) rfl (fun ls hl => ?_)
        refine lv_goto (tgt := 8) hx hb dX9_byError_96 (by decide) ?_
        exact ih hm C0 hW hS (lv_sub hl [1, 2, 0] rfl) kr kk
      · rw [if_pos h40] at hm
        refine lv_iload_n hx hb dX9_byError_91 rfl (lv_at hl 2 rfl) ?_
        cases hm
        exact kr _ rfl _ _ _ _ dX9_byError_92 hW hS
set_option maxHeartbeats 4000000 in
set_option maxRecDepth 100000 in
theorem b_X9_byError {l : Launch} {D : va_G} {ca : Nat → ClassId} {A : Nat → Prop} {N : Nat} {σ : zS} {v0 : Nat} {v1 : Int32} {r0 : Int32} (hm : m_X9_byError N σ v0 v1 = some r0) : Met l yX9_byError (.code yX9_byError cX9_byError 5 (some .int) :: wsL_law) ({ frames := 7, cells := 0, slots := 0, locals := 156 } : Room) (va_Pc [.ref v0, .int v1] (zP D ca A σ)) (zQi r0 D ca A σ) 0 0 A := by
  refine zMk (by decide +kernel) (Nat.le_of_ble_eq_true rfl) ?_
  intro p e s m below meth c C0 hr hlocks hin hW ls hl
  have hx := C0.1
  have hb := C0.2.1
  have hS : va_S A s.heap s.heap [] := va_S.rf
  have hl : lv_has ls 5 [(0, .ref v0), (1, .int v1)] := hl
  unfold m_X9_byError at hm
  refine lv_iload_n hx hb dX9_byError_0 rfl (lv_at hl 1 rfl) ?_
  refine lv_if_ge (tgt := 6) hx hb dX9_byError_1 (by decide) (fun h1 => ?_) (fun h1 => ?_)
  · rw [if_pos h1] at hm
    refine lv_iconst (v := 0) hx hb dX9_byError_6 (by decide) ?_
    refine lv_istore_n (lv' := [(2, .int 0), (0, .ref v0), (1, .int v1)]) hx hb dX9_byError_7 rfl hl (by decide) rfl (fun ls hl => ?_)
    replace hm := obs hm; rcases hm with ⟨r9, e43, hm⟩ | ⟨z9, e43, hm⟩
    · cases hm
      refine w_X9_byError_L8 N N e43 C0 hW hS (lv_sub hl [1, 2, 0] rfl) (fun _ hq pc2 H locs ls d2 hW hS => ?_) (fun  hq => by cases hq)
      cases hq
      exact r_iret C0 hr hlocks hW hS d2
    · refine w_X9_byError_L8 N N e43 C0 hW hS (lv_sub hl [1, 2, 0] rfl) (fun _ hq => by cases hq) (fun  hq H locs ls hW hS hl => ?_)
      cases hq
      refine lv_bipush (v := (-4)) hx hb dX9_byError_99 (by decide) ?_
      cases hm
      exact r_iret C0 hr hlocks hW hS dX9_byError_101
  · rw [if_neg h1] at hm
    refine lv_iconst (v := (-1)) hx hb dX9_byError_4 (by decide) ?_
    cases hm
    exact r_iret C0 hr hlocks hW hS dX9_byError_5
set_option maxHeartbeats 4000000 in
set_option maxRecDepth 100000 in
theorem b_X9_clearText {l : Launch} {D : va_G} {ca : Nat → ClassId} {A : Nat → Prop} {N : Nat} {σ : zS} {v0 : Nat} {r0 : Int32} {σ' : zS} (hm : m_X9_clearText N σ v0 = some (r0, σ')) : Met l yX9_clearText (.code yX9_clearText cX9_clearText 2 (some .int) :: wsL_law) ({ frames := 0, cells := 0, slots := 0, locals := 0 } : Room) (va_Pc [.ref v0] (zP D ca A σ)) (zQi r0 D ca A σ') 0 0 A := by
  refine zMk (by decide +kernel) (Nat.le_of_ble_eq_true rfl) ?_
  intro p e s m below meth c C0 hr hlocks hin hW ls hl
  have hx := C0.1
  have hb := C0.2.1
  have hS : va_S A s.heap s.heap [] := va_S.rf
  have hl : lv_has ls 2 [(0, .ref v0)] := hl
  unfold m_X9_clearText at hm
  refine lv_aload_n hx hb dX9_clearText_0 rfl (lv_at hl 0 rfl) ?_
  replace hm := ob hm; obtain ⟨x1, e2, hm⟩ := hm
  refine r_getI C0 hW fl_X9_174 e2 dX9_clearText_1 ?_
  refine lv_istore_n (lv' := [(1, .int x1), (0, .ref v0)]) hx hb dX9_clearText_4 rfl hl (by decide) rfl (fun ls hl => ?_)
  refine lv_aload_n hx hb dX9_clearText_5 rfl (lv_at hl 1 rfl) ?_
  refine lv_iconst (v := 0) hx hb dX9_clearText_6 (by decide) ?_
  replace hm := ob hm; obtain ⟨σ3, e4, hm⟩ := hm
  refine r_putI C0 hW hS fl_X9_174 e4 dX9_clearText_7 (fun H locs hW hS => ?_)
  refine lv_iload_n hx hb dX9_clearText_10 rfl (lv_at hl 0 rfl) ?_
  obtain ⟨hq8, hq9⟩ := Prod.mk.inj (Option.some.inj hm); subst hq8; subst hq9
  exact r_iret C0 hr hlocks hW hS dX9_clearText_11
set_option maxHeartbeats 4000000 in
set_option maxRecDepth 100000 in
theorem b_X9_here {l : Launch} {D : va_G} {ca : Nat → ClassId} {A : Nat → Prop} {N : Nat} {σ : zS} {v0 : Nat} {r0 : Int32} (hm : m_X9_here N σ v0 = some r0) : Met l yX9_here (.code yX9_here cX9_here 1 (some .int) :: wsL_law) ({ frames := 0, cells := 0, slots := 0, locals := 0 } : Room) (va_Pc [.ref v0] (zP D ca A σ)) (zQi r0 D ca A σ) 0 0 A := by
  refine zMk (by decide +kernel) (Nat.le_of_ble_eq_true rfl) ?_
  intro p e s m below meth c C0 hr hlocks hin hW ls hl
  have hx := C0.1
  have hb := C0.2.1
  have hS : va_S A s.heap s.heap [] := va_S.rf
  have hl : lv_has ls 1 [(0, .ref v0)] := hl
  unfold m_X9_here at hm
  refine lv_aload_n hx hb dX9_here_0 rfl (lv_at hl 0 rfl) ?_
  replace hm := ob hm; obtain ⟨x1, e2, hm⟩ := hm
  refine r_getI C0 hW fl_X9_196 e2 dX9_here_1 ?_
  refine lv_aload_n hx hb dX9_here_4 rfl (lv_at hl 0 rfl) ?_
  replace hm := ob hm; obtain ⟨x3, e4, hm⟩ := hm
  refine r_getI C0 hW fl_X9_174 e4 dX9_here_5 ?_
  refine lv_icmp_ge (tgt := 23) hx hb dX9_here_8 (by decide) (fun h5 => ?_) (fun h5 => ?_)
  · rw [if_pos h5] at hm
    refine lv_iconst (v := (-1)) hx hb dX9_here_23 (by decide) ?_
    cases hm
    exact r_iret C0 hr hlocks hW hS dX9_here_24
  · rw [if_neg h5] at hm
    refine lv_aload_n hx hb dX9_here_11 rfl (lv_at hl 0 rfl) ?_
    replace hm := ob hm; obtain ⟨a6, e7, hm⟩ := hm
    refine r_getA C0 hW fl_X9_31 e7 dX9_here_12 ?_
    refine lv_aload_n hx hb dX9_here_15 rfl (lv_at hl 0 rfl) ?_
    replace hm := ob hm; obtain ⟨x8, e9, hm⟩ := hm
    refine r_getI C0 hW fl_X9_196 e9 dX9_here_16 ?_
    replace hm := ob hm; obtain ⟨x10, e11, hm⟩ := hm
    refine r_aI C0 hW e11 dX9_here_19 ?_
    refine lv_goto (tgt := 24) hx hb dX9_here_20 (by decide) ?_
    cases hm
    exact r_iret C0 hr hlocks hW hS dX9_here_24
set_option maxHeartbeats 4000000 in
set_option maxRecDepth 100000 in
theorem b_X9_must {l : Launch} {D : va_G} {ca : Nat → ClassId} {A : Nat → Prop} {N : Nat} {σ : zS} {v0 : Nat} {v1 : Int32} {σ' : zS} (hm : m_X9_must N σ v0 v1 = some σ') : Met l yX9_must (.code yX9_must cX9_must 2 none :: wsL_law) ({ frames := 1, cells := 0, slots := 0, locals := 20 } : Room) (va_Pc [.ref v0, .int v1] (zP D ca A σ)) (zQv D ca A σ') 0 0 A := by
  refine zMk (by decide +kernel) (Nat.le_of_ble_eq_true rfl) ?_
  intro p e s m below meth c C0 hr hlocks hin hW ls hl
  have hx := C0.1
  have hb := C0.2.1
  have hS : va_S A s.heap s.heap [] := va_S.rf
  have hl : lv_has ls 2 [(0, .ref v0), (1, .int v1)] := hl
  unfold m_X9_must at hm
  refine lv_aload_n hx hb dX9_must_0 rfl (lv_at hl 0 rfl) ?_
  refine lv_aload_n hx hb dX9_must_1 rfl (lv_at hl 0 rfl) ?_
  replace hm := ob hm; obtain ⟨x1, e2, hm⟩ := hm
  refine r_getI C0 hW fl_X9_199 e2 dX9_must_2 ?_
  replace hm := ob hm; obtain ⟨y10, e19, hm⟩ := hm
  have J21_3 : ∀ (H : Heap) (locs : List Loc) (ls : Array Slot), zW D ca A σ H → va_S A s.heap H locs → lv_has ls 2 [(0, .ref v0)] → W p l e ({ frames := 1, cells := 0, slots := 0, locals := 20 } : Room) s m (List.toArray [.ref v0, .int v1]) below meth c H locs 0 0 (MQ below (zQv D ca A σ') (List.toArray [.ref v0, .int v1]) s 0 0 A) (F0 m 21 ls [.int y10, .ref v0]) := by
    intro H locs ls hW hS hl
    replace hm := ob hm; obtain ⟨x13, e14, hm⟩ := hm
    replace hm := ob hm; obtain ⟨σ11, e12, hm⟩ := hm
    refine r_putZ C0 hW hS fl_X9_199 e14 e12 dX9_must_21 (fun H locs hW hS => ?_)
    refine lv_aload_n hx hb dX9_must_24 rfl (lv_at hl 0 rfl) ?_
    refine lv_dup hx hb dX9_must_25 rfl ?_
    replace hm := ob hm; obtain ⟨x15, e16, hm⟩ := hm
    refine r_getI C0 hW fl_X9_196 e16 dX9_must_26 ?_
    refine lv_iconst (v := 1) hx hb dX9_must_29 (by decide) ?_
    refine lv_iadd hx hb dX9_must_30 ?_
    replace hm := ob hm; obtain ⟨σ17, e18, hm⟩ := hm
    refine r_putI C0 hW hS fl_X9_196 e18 dX9_must_31 (fun H locs hW hS => ?_)
    cases hm
    exact r_vret C0 hr hlocks hW hS dX9_must_34
  clear hm
  have hm := e19
  clear e19
  refine lv_if_eq (tgt := 20) hx hb dX9_must_5 (by decide) (fun h3 => ?_) (fun h3 => ?_)
  · rw [if_pos h3] at hm
    refine lv_iconst (v := 0) hx hb dX9_must_20 (by decide) ?_
    have hq1 := Option.some.inj hm; subst hq1
    exact J21_3 _ _ _ hW hS (lv_sub hl [0] rfl)
  · rw [if_neg h3] at hm
    refine lv_aload_n hx hb dX9_must_8 rfl (lv_at hl 0 rfl) ?_
    replace hm := ob hm; obtain ⟨u5, e6, hm⟩ := hm
    replace hm := ob hm; obtain ⟨x8, e7, hm⟩ := hm
    refine z_calli (z_runV (As := []) (rest := [.ref v0]) (ci := 9) rfl rfl C0 lv_X9_203 (b_X9_here e7) hW hS e6 rfl hl.1 rfl (Nat.le_of_ble_eq_true rfl) dX9_must_9 rfl rfl ⟨Nat.le_of_ble_eq_true rfl, Nat.le_of_ble_eq_true rfl⟩ ⟨Nat.le_refl _, Nat.le_refl _⟩) hS (fun H locs hW hS => ?_)
    refine lv_iload_n hx hb dX9_must_12 rfl (lv_at hl 1 rfl) ?_
    refine lv_icmp_ne (tgt := 20) hx hb dX9_must_13 (by decide) (fun h9 => ?_) (fun h9 => ?_)
    · rw [if_neg h9] at hm
      refine lv_iconst (v := 0) hx hb dX9_must_20 (by decide) ?_
      have hq1 := Option.some.inj hm; subst hq1
      exact J21_3 _ _ _ hW hS (lv_sub hl [0] rfl)
    · rw [if_pos h9] at hm
      refine lv_iconst (v := 1) hx hb dX9_must_16 (by decide) ?_
      refine lv_goto (tgt := 21) hx hb dX9_must_17 (by decide) ?_
      have hq1 := Option.some.inj hm; subst hq1
      exact J21_3 _ _ _ hW hS (lv_sub hl [0] rfl)
set_option maxHeartbeats 4000000 in
set_option maxRecDepth 100000 in
theorem w_X9_number_L9 {p : Program} {l : Launch} {e : Env} {s : State} {m : MethodId} {args : Array Value} {below : List Frame} {meth : Method} {c : Code} {D : va_G} {ca : Nat → ClassId} {A : Nat → Prop} {Q : State → Prop} (N : Nat) : ∀ (n : Nat) {σ : zS} {v0 : Nat} {v2 : Int32} {v3 : Int32} {y2 : Int32} {y3 : Int32} {σ' : zS} {H : Heap} {locs : List Loc} {ls : Array Slot}, m_X9_number_L9 N n σ v0 v2 v3 = some (y2, y3, σ') → zC p s m args c RX9 cX9_number 4 D ca A → zW D ca A σ H → va_S A s.heap H locs → lv_has ls 4 [(0, .ref v0), (2, .int v2), (3, .int v3)] → (∀ (H : Heap) (locs : List Loc) (ls : Array Slot), zW D ca A σ' H → va_S A s.heap H locs → lv_has ls 4 [(0, .ref v0), (2, .int y2), (3, .int y3)] → W p l e ({ frames := 2, cells := 0, slots := 0, locals := 41 } : Room) s m args below meth c H locs 0 0 Q (F0 m 57 ls [])) → W p l e ({ frames := 2, cells := 0, slots := 0, locals := 41 } : Room) s m args below meth c H locs 0 0 Q (F0 m 9 ls []) := by
  intro n
  induction n with
  | zero =>
    intro σ v0 v2 v3 y2 y3 σ' H locs ls hm C0 hW hS hl kk
    rw [m_X9_number_L9] at hm
    cases hm
  | succ n ih =>
    intro σ v0 v2 v3 y2 y3 σ' H locs ls hm C0 hW hS hl kk
    rw [m_X9_number_L9] at hm
    have hx := C0.1
    have hb := C0.2.1
    refine lv_iload_n hx hb dX9_number_9 rfl (lv_at hl 2 rfl) ?_
    refine lv_iconst (v := 3) hx hb dX9_number_10 (by decide) ?_
    refine lv_icmp_ge (tgt := 57) hx hb dX9_number_11 (by decide) (fun h5 => ?_) (fun h5 => ?_)
    · rw [if_pos h5] at hm
      cases hm
      exact kk _ _ _ hW hS (lv_sub hl [0, 1, 2] rfl)
    · rw [if_neg h5] at hm
      refine lv_aload_n hx hb dX9_number_14 rfl (lv_at hl 0 rfl) ?_
      replace hm := ob hm; obtain ⟨u6, e7, hm⟩ := hm
      replace hm := ob hm; obtain ⟨x9, e8, hm⟩ := hm
      refine z_calli (z_runV (As := []) (rest := []) (ci := 9) rfl rfl C0 lv_X9_203 (b_X9_here e8) hW hS e7 rfl hl.1 rfl (Nat.le_of_ble_eq_true rfl) dX9_number_15 rfl rfl ⟨Nat.le_of_ble_eq_true rfl, Nat.le_of_ble_eq_true rfl⟩ ⟨Nat.le_refl _, Nat.le_refl _⟩) hS (fun H locs hW hS => ?_)
      refine lv_bipush (v := 48) hx hb dX9_number_18 (by decide) ?_
      refine lv_bipush (v := 57) hx hb dX9_number_20 (by decide) ?_
      replace hm := ob hm; obtain ⟨x11, e10, hm⟩ := hm
      refine z_calli (z_runS (As := [.int x9, .int 48, .int 57]) (rest := []) C0 ls_X9_49 (b_X9_in e10) hW hS rfl hl.1 rfl (Nat.le_of_ble_eq_true rfl) dX9_number_22 rfl rfl ⟨Nat.le_of_ble_eq_true rfl, Nat.le_of_ble_eq_true rfl⟩ ⟨Nat.le_refl _, Nat.le_refl _⟩) hS (fun H locs hW hS => ?_)
      refine lv_if_eq (tgt := 57) hx hb dX9_number_25 (by decide) (fun h12 => ?_) (fun h12 => ?_)
      · rw [if_pos h12] at hm
        cases hm
        exact kk _ _ _ hW hS (lv_sub hl [0, 1, 2] rfl)
      · rw [if_neg h12] at hm
        refine lv_bipush (v := 10) hx hb dX9_number_28 (by decide) ?_
        refine lv_iload_n hx hb dX9_number_30 rfl (lv_at hl 1 rfl) ?_
        refine lv_imul hx hb dX9_number_31 ?_
        refine lv_aload_n hx hb dX9_number_32 rfl (lv_at hl 0 rfl) ?_
        replace hm := ob hm; obtain ⟨u13, e14, hm⟩ := hm
        replace hm := ob hm; obtain ⟨x16, e15, hm⟩ := hm
        refine z_calli (z_runV (As := []) (rest := [.int (10 * v2)]) (ci := 9) rfl rfl C0 lv_X9_203 (b_X9_here e15) hW hS e14 rfl hl.1 rfl (Nat.le_of_ble_eq_true rfl) dX9_number_33 rfl rfl ⟨Nat.le_of_ble_eq_true rfl, Nat.le_of_ble_eq_true rfl⟩ ⟨Nat.le_refl _, Nat.le_refl _⟩) hS (fun H locs hW hS => ?_)
        refine lv_iadd hx hb dX9_number_36 ?_
        refine lv_bipush (v := 48) hx hb dX9_number_37 (by decide) ?_
        refine lv_isub hx hb dX9_number_39 ?_
        replace hm := ob hm; obtain ⟨x17, e18, hm⟩ := hm
        refine z_top e18 ?_
        refine lv_istore_n (lv' := [(2, .int x17), (0, .ref v0), (3, .int v3)]) hx hb dX9_number_40 rfl hl (by decide) rfl (fun ls hl => ?_)
        replace hm := ob hm; obtain ⟨x19, e20, hm⟩ := hm
        refine lv_iinc (v := x19) (lv' := [(3, .int x19), (2, .int x17), (0, .ref v0)]) hx hb dX9_number_41 hl (k := 2) rfl (Option.some.inj e20) (by decide) rfl (fun ls hl => ?_)
        refine lv_aload_n hx hb dX9_number_44 rfl (lv_at hl 2 rfl) ?_
        refine lv_dup hx hb dX9_number_45 rfl ?_
        replace hm := ob hm; obtain ⟨x21, e22, hm⟩ := hm
        refine r_getI C0 hW fl_X9_196 e22 dX9_number_46 ?_
        refine lv_iconst (v := 1) hx hb dX9_number_49 (by decide) ?_
        refine lv_iadd hx hb dX9_number_50 ?_
        replace hm := ob hm; obtain ⟨σ23, e24, hm⟩ := hm
        refine r_putI C0 hW hS fl_X9_196 e24 dX9_number_51 (fun H locs hW hS => ?_)
        refine lv_goto (tgt := 9) hx hb dX9_number_54 (by decide) ?_
        exact ih hm C0 hW hS (lv_sub hl [2, 1, 0] rfl) kk
set_option maxHeartbeats 4000000 in
set_option maxRecDepth 100000 in
theorem b_X9_number {l : Launch} {D : va_G} {ca : Nat → ClassId} {A : Nat → Prop} {N : Nat} {σ : zS} {v0 : Nat} {v1 : Int32} {r0 : Int32} {σ' : zS} (hm : m_X9_number N σ v0 v1 = some (r0, σ')) : Met l yX9_number (.code yX9_number cX9_number 4 (some .int) :: wsL_law) ({ frames := 2, cells := 0, slots := 0, locals := 41 } : Room) (va_Pc [.ref v0, .int v1] (zP D ca A σ)) (zQi r0 D ca A σ') 0 0 A := by
  refine zMk (by decide +kernel) (Nat.le_of_ble_eq_true rfl) ?_
  intro p e s m below meth c C0 hr hlocks hin hW ls hl
  have hx := C0.1
  have hb := C0.2.1
  have hS : va_S A s.heap s.heap [] := va_S.rf
  have hl : lv_has ls 4 [(0, .ref v0), (1, .int v1)] := hl
  unfold m_X9_number at hm
  refine lv_aload_n hx hb dX9_number_0 rfl (lv_at hl 0 rfl) ?_
  refine lv_iload_n hx hb dX9_number_1 rfl (lv_at hl 1 rfl) ?_
  replace hm := ob hm; obtain ⟨u1, e2, hm⟩ := hm
  replace hm := ob hm; obtain ⟨σ4, e3, hm⟩ := hm
  refine z_callv (z_runV (As := [.int v1]) (rest := []) (ci := 9) rfl rfl C0 lv_X9_206 (b_X9_must e3) hW hS e2 rfl hl.1 rfl (Nat.le_of_ble_eq_true rfl) dX9_number_2 rfl rfl ⟨Nat.le_of_ble_eq_true rfl, Nat.le_of_ble_eq_true rfl⟩ ⟨Nat.le_refl _, Nat.le_refl _⟩) hS (fun H locs hW hS => ?_)
  refine lv_iconst (v := 0) hx hb dX9_number_5 (by decide) ?_
  refine lv_istore_n (lv' := [(2, .int 0), (0, .ref v0), (1, .int v1)]) hx hb dX9_number_6 rfl hl (by decide) rfl (fun ls hl => ?_)
  refine lv_iconst (v := 0) hx hb dX9_number_7 (by decide) ?_
  refine lv_istore_n (lv' := [(3, .int 0), (2, .int 0), (0, .ref v0), (1, .int v1)]) hx hb dX9_number_8 rfl hl (by decide) rfl (fun ls hl => ?_)
  replace hm := o3 hm; obtain ⟨y25, y26, σ27, e28, hm⟩ := hm
  refine w_X9_number_L9 N N e28 C0 hW hS (lv_sub hl [2, 1, 0] rfl) (fun H locs ls hW hS hl => ?_)
  refine lv_aload_n hx hb dX9_number_57 rfl (lv_at hl 0 rfl) ?_
  refine lv_aload_n hx hb dX9_number_58 rfl (lv_at hl 0 rfl) ?_
  replace hm := ob hm; obtain ⟨x29, e30, hm⟩ := hm
  refine r_getI C0 hW fl_X9_199 e30 dX9_number_59 ?_
  replace hm := ob hm; obtain ⟨y34, e39, hm⟩ := hm
  have J74_31 : ∀ (H : Heap) (locs : List Loc) (ls : Array Slot), zW D ca A σ27 H → va_S A s.heap H locs → lv_has ls 4 [(2, .int y25)] → W p l e ({ frames := 2, cells := 0, slots := 0, locals := 41 } : Room) s m (List.toArray [.ref v0, .int v1]) below meth c H locs 0 0 (MQ below (zQi r0 D ca A σ') (List.toArray [.ref v0, .int v1]) s 0 0 A) (F0 m 74 ls [.int y34, .ref v0]) := by
    intro H locs ls hW hS hl
    replace hm := ob hm; obtain ⟨x37, e38, hm⟩ := hm
    replace hm := ob hm; obtain ⟨σ35, e36, hm⟩ := hm
    refine r_putZ C0 hW hS fl_X9_199 e38 e36 dX9_number_74 (fun H locs hW hS => ?_)
    refine lv_iload_n hx hb dX9_number_77 rfl (lv_at hl 0 rfl) ?_
    obtain ⟨hq8, hq9⟩ := Prod.mk.inj (Option.some.inj hm); subst hq8; subst hq9
    exact r_iret C0 hr hlocks hW hS dX9_number_78
  clear hm
  have hm := e39
  clear e39
  refine lv_if_eq (tgt := 73) hx hb dX9_number_62 (by decide) (fun h31 => ?_) (fun h31 => ?_)
  · rw [if_pos h31] at hm
    refine lv_iconst (v := 0) hx hb dX9_number_73 (by decide) ?_
    have hq1 := Option.some.inj hm; subst hq1
    exact J74_31 _ _ _ hW hS (lv_sub hl [1] rfl)
  · rw [if_neg h31] at hm
    refine lv_iload_n hx hb dX9_number_65 rfl (lv_at hl 2 rfl) ?_
    refine lv_if_le (tgt := 73) hx hb dX9_number_66 (by decide) (fun h33 => ?_) (fun h33 => ?_)
    · rw [if_pos h33] at hm
      refine lv_iconst (v := 0) hx hb dX9_number_73 (by decide) ?_
      have hq1 := Option.some.inj hm; subst hq1
      exact J74_31 _ _ _ hW hS (lv_sub hl [1] rfl)
    · rw [if_neg h33] at hm
      refine lv_iconst (v := 1) hx hb dX9_number_69 (by decide) ?_
      refine lv_goto (tgt := 74) hx hb dX9_number_70 (by decide) ?_
      have hq1 := Option.some.inj hm; subst hq1
      exact J74_31 _ _ _ hW hS (lv_sub hl [1] rfl)
set_option maxHeartbeats 4000000 in
set_option maxRecDepth 100000 in
theorem w_X9_forgets_L2 {p : Program} {l : Launch} {e : Env} {s : State} {m : MethodId} {args : Array Value} {below : List Frame} {meth : Method} {c : Code} {D : va_G} {ca : Nat → ClassId} {A : Nat → Prop} {Q : State → Prop} (N : Nat) : ∀ (n : Nat) {σ : zS} {v0 : Nat} {v1 : Int32} {v2 : Int32} {σ' : zS} {H : Heap} {locs : List Loc} {ls : Array Slot}, m_X9_forgets_L2 N n σ v0 v1 v2 = some σ' → zC p s m args c RX9 cX9_forgets 3 D ca A → zW D ca A σ H → va_S A s.heap H locs → lv_has ls 3 [(0, .ref v0), (1, .int v1), (2, .int v2)] → (∀ (H : Heap) (locs : List Loc) (ls : Array Slot), zW D ca A σ' H → va_S A s.heap H locs → lv_has ls 3 [] → W p l e ({ frames := 0, cells := 0, slots := 0, locals := 0 } : Room) s m args below meth c H locs 0 0 Q (F0 m 32 ls [])) → W p l e ({ frames := 0, cells := 0, slots := 0, locals := 0 } : Room) s m args below meth c H locs 0 0 Q (F0 m 2 ls []) := by
  intro n
  induction n with
  | zero =>
    intro σ v0 v1 v2 σ' H locs ls hm C0 hW hS hl kk
    rw [m_X9_forgets_L2] at hm
    cases hm
  | succ n ih =>
    intro σ v0 v1 v2 σ' H locs ls hm C0 hW hS hl kk
    rw [m_X9_forgets_L2] at hm
    have hx := C0.1
    have hb := C0.2.1
    refine lv_iload_n hx hb dX9_forgets_2 rfl (lv_at hl 2 rfl) ?_
    refine lv_sipush (v := 1000) hx hb dX9_forgets_3 (by decide) ?_
    refine lv_icmp_ge (tgt := 32) hx hb dX9_forgets_6 (by decide) (fun h1 => ?_) (fun h1 => ?_)
    · rw [if_pos h1] at hm
      cases hm
      exact kk _ _ _ hW hS (lv_sub hl [] rfl)
    · rw [if_neg h1] at hm
      refine lv_aload_n hx hb dX9_forgets_9 rfl (lv_at hl 0 rfl) ?_
      replace hm := ob hm; obtain ⟨a2, e3, hm⟩ := hm
      refine r_getA C0 hW fl_X9_7 e3 dX9_forgets_10 ?_
      refine lv_sipush (v := 165) hx hb dX9_forgets_13 (by decide) ?_
      refine lv_sipush (v := 1000) hx hb dX9_forgets_16 (by decide) ?_
      refine lv_iload_n hx hb dX9_forgets_19 rfl (lv_at hl 1 rfl) ?_
      refine lv_imul hx hb dX9_forgets_20 ?_
      refine lv_iadd hx hb dX9_forgets_21 ?_
      refine lv_iload_n hx hb dX9_forgets_22 rfl (lv_at hl 2 rfl) ?_
      refine lv_iadd hx hb dX9_forgets_23 ?_
      refine lv_iconst (v := 0) hx hb dX9_forgets_24 (by decide) ?_
      replace hm := ob hm; obtain ⟨σ4, e5, hm⟩ := hm
      refine r_uI C0 hW hS e5 dX9_forgets_25 (fun H locs hW hS => ?_)
      replace hm := ob hm; obtain ⟨x6, e7, hm⟩ := hm
      refine lv_iinc (v := x6) (lv' := [(2, .int x6), (0, .ref v0), (1, .int v1)]) hx hb dX9_forgets_26 hl (k := 2) rfl (Option.some.inj e7) (by decide) rfl (fun ls hl => ?_)
      refine lv_goto (tgt := 2) hx hb dX9_forgets_29 (by decide) ?_
      exact ih hm C0 hW hS (lv_sub hl [1, 2, 0] rfl) kk
set_option maxHeartbeats 4000000 in
set_option maxRecDepth 100000 in
theorem b_X9_forgets {l : Launch} {D : va_G} {ca : Nat → ClassId} {A : Nat → Prop} {N : Nat} {σ : zS} {v0 : Nat} {v1 : Int32} {σ' : zS} (hm : m_X9_forgets N σ v0 v1 = some σ') : Met l yX9_forgets (.code yX9_forgets cX9_forgets 3 none :: wsL_law) ({ frames := 0, cells := 0, slots := 0, locals := 0 } : Room) (va_Pc [.ref v0, .int v1] (zP D ca A σ)) (zQv D ca A σ') 0 0 A := by
  refine zMk (by decide +kernel) (Nat.le_of_ble_eq_true rfl) ?_
  intro p e s m below meth c C0 hr hlocks hin hW ls hl
  have hx := C0.1
  have hb := C0.2.1
  have hS : va_S A s.heap s.heap [] := va_S.rf
  have hl : lv_has ls 3 [(0, .ref v0), (1, .int v1)] := hl
  unfold m_X9_forgets at hm
  refine lv_iconst (v := 0) hx hb dX9_forgets_0 (by decide) ?_
  refine lv_istore_n (lv' := [(2, .int 0), (0, .ref v0), (1, .int v1)]) hx hb dX9_forgets_1 rfl hl (by decide) rfl (fun ls hl => ?_)
  replace hm := ob hm; obtain ⟨σ8, e9, hm⟩ := hm
  refine w_X9_forgets_L2 N N e9 C0 hW hS (lv_sub hl [1, 2, 0] rfl) (fun H locs ls hW hS hl => ?_)
  cases hm
  exact r_vret C0 hr hlocks hW hS dX9_forgets_32
set_option maxHeartbeats 4000000 in
set_option maxRecDepth 100000 in
theorem w_X9_makeTable_L52 {p : Program} {l : Launch} {e : Env} {s : State} {m : MethodId} {args : Array Value} {below : List Frame} {meth : Method} {c : Code} {D : va_G} {ca : Nat → ClassId} {A : Nat → Prop} {Q : State → Prop} (N : Nat) : ∀ (n : Nat) {σ : zS} {v0 : Nat} {v1 : Int32} {v2 : Int32} {v3 : Int32} {v4 : Int32} {σ' : zS} {H : Heap} {locs : List Loc} {ls : Array Slot}, m_X9_makeTable_L52 N n σ v0 v1 v2 v3 v4 = some σ' → zC p s m args c RX9 cX9_makeTable 5 D ca A → zW D ca A σ H → va_S A s.heap H locs → lv_has ls 5 [(0, .ref v0), (1, .int v1), (2, .int v2), (3, .int v3), (4, .int v4)] → (∀ (H : Heap) (locs : List Loc) (ls : Array Slot), zW D ca A σ' H → va_S A s.heap H locs → lv_has ls 5 [(0, .ref v0), (1, .int v1), (2, .int v2), (3, .int v3)] → W p l e ({ frames := 1, cells := 0, slots := 0, locals := 22 } : Room) s m args below meth c H locs 0 0 Q (F0 m 75 ls [])) → W p l e ({ frames := 1, cells := 0, slots := 0, locals := 22 } : Room) s m args below meth c H locs 0 0 Q (F0 m 52 ls []) := by
  intro n
  induction n with
  | zero =>
    intro σ v0 v1 v2 v3 v4 σ' H locs ls hm C0 hW hS hl kk
    rw [m_X9_makeTable_L52] at hm
    cases hm
  | succ n ih =>
    intro σ v0 v1 v2 v3 v4 σ' H locs ls hm C0 hW hS hl kk
    rw [m_X9_makeTable_L52] at hm
    have hx := C0.1
    have hb := C0.2.1
    refine lv_iload hx hb dX9_makeTable_52 (lv_at hl 4 rfl) ?_
    refine lv_bipush (v := 23) hx hb dX9_makeTable_54 (by decide) ?_
    refine lv_icmp_ge (tgt := 75) hx hb dX9_makeTable_56 (by decide) (fun h18 => ?_) (fun h18 => ?_)
    · rw [if_pos h18] at hm
      cases hm
      exact kk _ _ _ hW hS (lv_sub hl [0, 1, 2, 3] rfl)
    · rw [if_neg h18] at hm
      refine lv_aload_n hx hb dX9_makeTable_59 rfl (lv_at hl 0 rfl) ?_
      replace hm := ob hm; obtain ⟨a19, e20, hm⟩ := hm
      refine r_getA C0 hW fl_X9_7 e20 dX9_makeTable_60 ?_
      refine lv_iload_n hx hb dX9_makeTable_63 rfl (lv_at hl 3 rfl) ?_
      refine lv_iload hx hb dX9_makeTable_64 (lv_at hl 4 rfl) ?_
      refine lv_iadd hx hb dX9_makeTable_66 ?_
      refine lv_iconst (v := 0) hx hb dX9_makeTable_67 (by decide) ?_
      replace hm := ob hm; obtain ⟨σ21, e22, hm⟩ := hm
      refine r_uI C0 hW hS e22 dX9_makeTable_68 (fun H locs hW hS => ?_)
      replace hm := ob hm; obtain ⟨x23, e24, hm⟩ := hm
      refine lv_iinc (v := x23) (lv' := [(4, .int x23), (0, .ref v0), (1, .int v1), (2, .int v2), (3, .int v3)]) hx hb dX9_makeTable_69 hl (k := 4) rfl (Option.some.inj e24) (by decide) rfl (fun ls hl => ?_)
      refine lv_goto (tgt := 52) hx hb dX9_makeTable_72 (by decide) ?_
      exact ih hm C0 hW hS (lv_sub hl [1, 2, 3, 4, 0] rfl) kk
set_option maxHeartbeats 4000000 in
set_option maxRecDepth 100000 in
theorem b_X9_makeTable {l : Launch} {D : va_G} {ca : Nat → ClassId} {A : Nat → Prop} {N : Nat} {σ : zS} {v0 : Nat} {v1 : Int32} {v2 : Int32} {r0 : Int32} {σ' : zS} (hm : m_X9_makeTable N σ v0 v1 v2 = some (r0, σ')) : Met l yX9_makeTable (.code yX9_makeTable cX9_makeTable 5 (some .int) :: wsL_law) ({ frames := 1, cells := 0, slots := 0, locals := 22 } : Room) (va_Pc [.ref v0, .int v1, .int v2] (zP D ca A σ)) (zQi r0 D ca A σ') 0 0 A := by
  refine zMk (by decide +kernel) (Nat.le_of_ble_eq_true rfl) ?_
  intro p e s m below meth c C0 hr hlocks hin hW ls hl
  have hx := C0.1
  have hb := C0.2.1
  have hS : va_S A s.heap s.heap [] := va_S.rf
  have hl : lv_has ls 5 [(0, .ref v0), (1, .int v1), (2, .int v2)] := hl
  unfold m_X9_makeTable at hm
  refine lv_iload_n hx hb dX9_makeTable_0 rfl (lv_at hl 1 rfl) ?_
  refine lv_iconst (v := 0) hx hb dX9_makeTable_1 (by decide) ?_
  refine lv_iconst (v := 2) hx hb dX9_makeTable_2 (by decide) ?_
  replace hm := ob hm; obtain ⟨x2, e1, hm⟩ := hm
  refine z_calli (z_runS (As := [.int v1, .int 0, .int 2]) (rest := []) C0 ls_X9_49 (b_X9_in e1) hW hS rfl hl.1 rfl (Nat.le_of_ble_eq_true rfl) dX9_makeTable_3 rfl rfl ⟨Nat.le_of_ble_eq_true rfl, Nat.le_of_ble_eq_true rfl⟩ ⟨Nat.le_refl _, Nat.le_refl _⟩) hS (fun H locs hW hS => ?_)
  refine lv_if_eq (tgt := 19) hx hb dX9_makeTable_6 (by decide) (fun h3 => ?_) (fun h3 => ?_)
  · rw [if_pos h3] at hm
    refine lv_iconst (v := (-1)) hx hb dX9_makeTable_19 (by decide) ?_
    obtain ⟨hq8, hq9⟩ := Prod.mk.inj (Option.some.inj hm); subst hq8; subst hq9
    exact r_iret C0 hr hlocks hW hS dX9_makeTable_20
  · rw [if_neg h3] at hm
    refine lv_iload_n hx hb dX9_makeTable_9 rfl (lv_at hl 2 rfl) ?_
    refine lv_iconst (v := 0) hx hb dX9_makeTable_10 (by decide) ?_
    refine lv_bipush (v := 9) hx hb dX9_makeTable_11 (by decide) ?_
    replace hm := ob hm; obtain ⟨x5, e4, hm⟩ := hm
    refine z_calli (z_runS (As := [.int v2, .int 0, .int 9]) (rest := []) C0 ls_X9_49 (b_X9_in e4) hW hS rfl hl.1 rfl (Nat.le_of_ble_eq_true rfl) dX9_makeTable_13 rfl rfl ⟨Nat.le_of_ble_eq_true rfl, Nat.le_of_ble_eq_true rfl⟩ ⟨Nat.le_refl _, Nat.le_refl _⟩) hS (fun H locs hW hS => ?_)
    refine lv_if_ne (tgt := 21) hx hb dX9_makeTable_16 (by decide) (fun h6 => ?_) (fun h6 => ?_)
    · rw [if_neg h6] at hm
      refine lv_aload_n hx hb dX9_makeTable_21 rfl (lv_at hl 0 rfl) ?_
      replace hm := ob hm; obtain ⟨a7, e8, hm⟩ := hm
      refine r_getA C0 hW fl_X9_7 e8 dX9_makeTable_22 ?_
      refine lv_sipush (v := 138) hx hb dX9_makeTable_25 (by decide) ?_
      replace hm := ob hm; obtain ⟨x9, e10, hm⟩ := hm
      refine r_aI C0 hW e10 dX9_makeTable_28 ?_
      refine lv_bipush (v := 6) hx hb dX9_makeTable_29 (by decide) ?_
      refine lv_icmp_ne (tgt := 37) hx hb dX9_makeTable_31 (by decide) (fun h11 => ?_) (fun h11 => ?_)
      · rw [if_neg h11] at hm
        refine lv_bipush (v := 23) hx hb dX9_makeTable_37 (by decide) ?_
        refine lv_aload_n hx hb dX9_makeTable_39 rfl (lv_at hl 0 rfl) ?_
        replace hm := ob hm; obtain ⟨a12, e13, hm⟩ := hm
        refine r_getA C0 hW fl_X9_7 e13 dX9_makeTable_40 ?_
        refine lv_sipush (v := 138) hx hb dX9_makeTable_43 (by decide) ?_
        replace hm := ob hm; obtain ⟨x14, e15, hm⟩ := hm
        refine r_aI C0 hW e15 dX9_makeTable_46 ?_
        refine lv_imul hx hb dX9_makeTable_47 ?_
        replace hm := ob hm; obtain ⟨x16, e17, hm⟩ := hm
        refine z_top e17 ?_
        refine lv_istore_n (lv' := [(3, .int x16), (0, .ref v0), (1, .int v1), (2, .int v2)]) hx hb dX9_makeTable_48 rfl hl (by decide) rfl (fun ls hl => ?_)
        refine lv_iconst (v := 0) hx hb dX9_makeTable_49 (by decide) ?_
        refine lv_istore (lv' := [(4, .int 0), (3, .int x16), (0, .ref v0), (1, .int v1), (2, .int v2)]) hx hb dX9_makeTable_50 hl (by decide) rfl (fun ls hl => ?_)
        replace hm := ob hm; obtain ⟨σ25, e26, hm⟩ := hm
        refine w_X9_makeTable_L52 N N e26 C0 hW hS (lv_sub hl [2, 3, 4, 1, 0] rfl) (fun H locs ls hW hS hl => ?_)
        refine lv_aload_n hx hb dX9_makeTable_75 rfl (lv_at hl 0 rfl) ?_
        replace hm := ob hm; obtain ⟨a27, e28, hm⟩ := hm
        refine r_getA C0 hW fl_X9_7 e28 dX9_makeTable_76 ?_
        refine lv_iload_n hx hb dX9_makeTable_79 rfl (lv_at hl 3 rfl) ?_
        refine lv_iconst (v := 0) hx hb dX9_makeTable_80 (by decide) ?_
        refine lv_iadd hx hb dX9_makeTable_81 ?_
        refine lv_iload_n hx hb dX9_makeTable_82 rfl (lv_at hl 1 rfl) ?_
        replace hm := ob hm; obtain ⟨σ29, e30, hm⟩ := hm
        refine r_uI C0 hW hS e30 dX9_makeTable_83 (fun H locs hW hS => ?_)
        refine lv_aload_n hx hb dX9_makeTable_84 rfl (lv_at hl 0 rfl) ?_
        replace hm := ob hm; obtain ⟨a31, e32, hm⟩ := hm
        refine r_getA C0 hW fl_X9_7 e32 dX9_makeTable_85 ?_
        refine lv_iload_n hx hb dX9_makeTable_88 rfl (lv_at hl 3 rfl) ?_
        refine lv_iconst (v := 1) hx hb dX9_makeTable_89 (by decide) ?_
        refine lv_iadd hx hb dX9_makeTable_90 ?_
        refine lv_iload_n hx hb dX9_makeTable_91 rfl (lv_at hl 2 rfl) ?_
        replace hm := ob hm; obtain ⟨σ33, e34, hm⟩ := hm
        refine r_uI C0 hW hS e34 dX9_makeTable_92 (fun H locs hW hS => ?_)
        refine lv_aload_n hx hb dX9_makeTable_93 rfl (lv_at hl 0 rfl) ?_
        refine lv_aload_n hx hb dX9_makeTable_94 rfl (lv_at hl 0 rfl) ?_
        replace hm := ob hm; obtain ⟨a35, e36, hm⟩ := hm
        refine r_getA C0 hW fl_X9_7 e36 dX9_makeTable_95 ?_
        refine lv_sipush (v := 138) hx hb dX9_makeTable_98 (by decide) ?_
        replace hm := ob hm; obtain ⟨x37, e38, hm⟩ := hm
        refine r_aI C0 hW e38 dX9_makeTable_101 ?_
        replace hm := ob hm; obtain ⟨u39, e40, hm⟩ := hm
        replace hm := ob hm; obtain ⟨σ42, e41, hm⟩ := hm
        refine z_callv (z_runV (As := [.int x37]) (rest := []) (ci := 9) rfl rfl C0 lv_X9_104 (b_X9_forgets e41) hW hS e40 rfl hl.1 rfl (Nat.le_of_ble_eq_true rfl) dX9_makeTable_102 rfl rfl ⟨Nat.le_of_ble_eq_true rfl, Nat.le_of_ble_eq_true rfl⟩ ⟨Nat.le_refl _, Nat.le_refl _⟩) hS (fun H locs hW hS => ?_)
        refine lv_aload_n hx hb dX9_makeTable_105 rfl (lv_at hl 0 rfl) ?_
        replace hm := ob hm; obtain ⟨a43, e44, hm⟩ := hm
        refine r_getA C0 hW fl_X9_7 e44 dX9_makeTable_106 ?_
        refine lv_sipush (v := 138) hx hb dX9_makeTable_109 (by decide) ?_
        refine lv_dup2_11 hx hb dX9_makeTable_112 rfl rfl ?_
        replace hm := ob hm; obtain ⟨x45, e46, hm⟩ := hm
        refine r_aI C0 hW e46 dX9_makeTable_113 ?_
        refine lv_iconst (v := 1) hx hb dX9_makeTable_114 (by decide) ?_
        refine lv_iadd hx hb dX9_makeTable_115 ?_
        replace hm := ob hm; obtain ⟨σ47, e48, hm⟩ := hm
        refine r_uI C0 hW hS e48 dX9_makeTable_116 (fun H locs hW hS => ?_)
        refine lv_aload_n hx hb dX9_makeTable_117 rfl (lv_at hl 0 rfl) ?_
        replace hm := ob hm; obtain ⟨a49, e50, hm⟩ := hm
        refine r_getA C0 hW fl_X9_7 e50 dX9_makeTable_118 ?_
        refine lv_sipush (v := 138) hx hb dX9_makeTable_121 (by decide) ?_
        replace hm := ob hm; obtain ⟨x51, e52, hm⟩ := hm
        refine r_aI C0 hW e52 dX9_makeTable_124 ?_
        refine lv_iconst (v := 1) hx hb dX9_makeTable_125 (by decide) ?_
        refine lv_isub hx hb dX9_makeTable_126 ?_
        obtain ⟨hq8, hq9⟩ := Prod.mk.inj (Option.some.inj hm); subst hq8; subst hq9
        exact r_iret C0 hr hlocks hW hS dX9_makeTable_127
      · rw [if_pos h11] at hm
        refine lv_bipush (v := (-3)) hx hb dX9_makeTable_34 (by decide) ?_
        obtain ⟨hq8, hq9⟩ := Prod.mk.inj (Option.some.inj hm); subst hq8; subst hq9
        exact r_iret C0 hr hlocks hW hS dX9_makeTable_36
    · rw [if_pos h6] at hm
      refine lv_iconst (v := (-1)) hx hb dX9_makeTable_19 (by decide) ?_
      obtain ⟨hq8, hq9⟩ := Prod.mk.inj (Option.some.inj hm); subst hq8; subst hq9
      exact r_iret C0 hr hlocks hW hS dX9_makeTable_20
set_option maxHeartbeats 4000000 in
set_option maxRecDepth 100000 in
theorem w_X9_mergesInto_L93 {p : Program} {l : Launch} {e : Env} {s : State} {m : MethodId} {args : Array Value} {below : List Frame} {meth : Method} {c : Code} {D : va_G} {ca : Nat → ClassId} {A : Nat → Prop} {Q : State → Prop} (N : Nat) : ∀ (n : Nat) {σ : zS} {v0 : Nat} {v1 : Int32} {v2 : Int32} {v3 : Int32} {σ' : zS} {H : Heap} {locs : List Loc} {ls : Array Slot}, m_X9_mergesInto_L93 N n σ v0 v1 v2 v3 = some σ' → zC p s m args c RX9 cX9_mergesInto 6 D ca A → zW D ca A σ H → va_S A s.heap H locs → lv_has ls 6 [(0, .ref v0), (1, .int v1), (2, .int v2), (3, .int v3)] → (∀ (H : Heap) (locs : List Loc) (ls : Array Slot), zW D ca A σ' H → va_S A s.heap H locs → lv_has ls 6 [(0, .ref v0), (1, .int v1)] → W p l e ({ frames := 5, cells := 0, slots := 0, locals := 113 } : Room) s m args below meth c H locs 0 0 Q (F0 m 212 ls [])) → W p l e ({ frames := 5, cells := 0, slots := 0, locals := 113 } : Room) s m args below meth c H locs 0 0 Q (F0 m 93 ls []) := by
  intro n
  induction n with
  | zero =>
    intro σ v0 v1 v2 v3 σ' H locs ls hm C0 hW hS hl kk
    rw [m_X9_mergesInto_L93] at hm
    cases hm
  | succ n ih =>
    intro σ v0 v1 v2 v3 σ' H locs ls hm C0 hW hS hl kk
    rw [m_X9_mergesInto_L93] at hm
    have hx := C0.1
    have hb := C0.2.1
    refine lv_iload_n hx hb dX9_mergesInto_93 rfl (lv_at hl 3 rfl) ?_
    refine lv_sipush (v := 1000) hx hb dX9_mergesInto_94 (by decide) ?_
    refine lv_icmp_ge (tgt := 212) hx hb dX9_mergesInto_97 (by decide) (fun h39 => ?_) (fun h39 => ?_)
    · rw [if_pos h39] at hm
      cases hm
      exact kk _ _ _ hW hS (lv_sub hl [0, 1] rfl)
    · rw [if_neg h39] at hm
      refine lv_aload_n hx hb dX9_mergesInto_100 rfl (lv_at hl 0 rfl) ?_
      replace hm := ob hm; obtain ⟨a40, e41, hm⟩ := hm
      refine r_getA C0 hW fl_X9_7 e41 dX9_mergesInto_101 ?_
      refine lv_sipush (v := 165) hx hb dX9_mergesInto_104 (by decide) ?_
      refine lv_sipush (v := 1000) hx hb dX9_mergesInto_107 (by decide) ?_
      refine lv_iload_n hx hb dX9_mergesInto_110 rfl (lv_at hl 2 rfl) ?_
      refine lv_imul hx hb dX9_mergesInto_111 ?_
      refine lv_iadd hx hb dX9_mergesInto_112 ?_
      refine lv_iload_n hx hb dX9_mergesInto_113 rfl (lv_at hl 3 rfl) ?_
      refine lv_iadd hx hb dX9_mergesInto_114 ?_
      replace hm := ob hm; obtain ⟨x42, e43, hm⟩ := hm
      refine r_aI C0 hW e43 dX9_mergesInto_115 ?_
      refine lv_istore (lv' := [(4, .int x42), (0, .ref v0), (1, .int v1), (2, .int v2), (3, .int v3)]) hx hb dX9_mergesInto_116 hl (by decide) rfl (fun ls hl => ?_)
      refine lv_aload_n hx hb dX9_mergesInto_118 rfl (lv_at hl 1 rfl) ?_
      replace hm := ob hm; obtain ⟨a44, e45, hm⟩ := hm
      refine r_getA C0 hW fl_X9_7 e45 dX9_mergesInto_119 ?_
      refine lv_sipush (v := 165) hx hb dX9_mergesInto_122 (by decide) ?_
      refine lv_sipush (v := 1000) hx hb dX9_mergesInto_125 (by decide) ?_
      refine lv_iload_n hx hb dX9_mergesInto_128 rfl (lv_at hl 2 rfl) ?_
      refine lv_imul hx hb dX9_mergesInto_129 ?_
      refine lv_iadd hx hb dX9_mergesInto_130 ?_
      refine lv_iload_n hx hb dX9_mergesInto_131 rfl (lv_at hl 4 rfl) ?_
      refine lv_iadd hx hb dX9_mergesInto_132 ?_
      replace hm := ob hm; obtain ⟨x46, e47, hm⟩ := hm
      refine r_aI C0 hW e47 dX9_mergesInto_133 ?_
      refine lv_istore (lv' := [(5, .int x46), (4, .int x42), (0, .ref v0), (1, .int v1), (2, .int v2), (3, .int v3)]) hx hb dX9_mergesInto_134 hl (by decide) rfl (fun ls hl => ?_)
      refine lv_aload_n hx hb dX9_mergesInto_136 rfl (lv_at hl 2 rfl) ?_
      replace hm := ob hm; obtain ⟨a48, e49, hm⟩ := hm
      refine r_getA C0 hW fl_X9_7 e49 dX9_mergesInto_137 ?_
      refine lv_bipush (v := 23) hx hb dX9_mergesInto_140 (by decide) ?_
      refine lv_iload_n hx hb dX9_mergesInto_142 rfl (lv_at hl 3 rfl) ?_
      refine lv_imul hx hb dX9_mergesInto_143 ?_
      refine lv_bipush (v := 22) hx hb dX9_mergesInto_144 (by decide) ?_
      refine lv_iadd hx hb dX9_mergesInto_146 ?_
      replace hm := ob hm; obtain ⟨x50, e51, hm⟩ := hm
      refine z_top e51 ?_
      refine lv_dup2_11 hx hb dX9_mergesInto_147 rfl rfl ?_
      replace hm := ob hm; obtain ⟨x52, e53, hm⟩ := hm
      refine r_aI C0 hW e53 dX9_mergesInto_148 ?_
      refine lv_iload hx hb dX9_mergesInto_149 (lv_at hl 0 rfl) ?_
      replace hm := ob hm; obtain ⟨y57, e72, hm⟩ := hm
      have J164_54 : ∀ (H : Heap) (locs : List Loc) (ls : Array Slot), zW D ca A σ H → va_S A s.heap H locs → lv_has ls 6 [(5, .int x46), (4, .int x42), (0, .ref v0), (1, .int v1), (2, .int v2), (3, .int v3)] → W p l e ({ frames := 5, cells := 0, slots := 0, locals := 113 } : Room) s m args below meth c H locs 0 0 Q (F0 m 164 ls [.int y57, .int x52, .int x50, .ref a48]) := by
        intro H locs ls hW hS hl
        refine lv_iadd hx hb dX9_mergesInto_164 ?_
        replace hm := ob hm; obtain ⟨σ58, e59, hm⟩ := hm
        refine r_uI C0 hW hS e59 dX9_mergesInto_165 (fun H locs hW hS => ?_)
        refine lv_aload_n hx hb dX9_mergesInto_166 rfl (lv_at hl 2 rfl) ?_
        replace hm := ob hm; obtain ⟨a60, e61, hm⟩ := hm
        refine r_getA C0 hW fl_X9_7 e61 dX9_mergesInto_167 ?_
        refine lv_sipush (v := 165) hx hb dX9_mergesInto_170 (by decide) ?_
        refine lv_sipush (v := 1000) hx hb dX9_mergesInto_173 (by decide) ?_
        refine lv_iload_n hx hb dX9_mergesInto_176 rfl (lv_at hl 3 rfl) ?_
        refine lv_imul hx hb dX9_mergesInto_177 ?_
        refine lv_iadd hx hb dX9_mergesInto_178 ?_
        refine lv_iload_n hx hb dX9_mergesInto_179 rfl (lv_at hl 5 rfl) ?_
        refine lv_iadd hx hb dX9_mergesInto_180 ?_
        refine lv_iload hx hb dX9_mergesInto_181 (lv_at hl 0 rfl) ?_
        replace hm := ob hm; obtain ⟨y66, e71, hm⟩ := hm
        have J205_62 : ∀ (H : Heap) (locs : List Loc) (ls : Array Slot), zW D ca A σ58 H → va_S A s.heap H locs → lv_has ls 6 [(0, .ref v0), (1, .int v1), (2, .int v2), (3, .int v3)] → W p l e ({ frames := 5, cells := 0, slots := 0, locals := 113 } : Room) s m args below meth c H locs 0 0 Q (F0 m 205 ls [.int y66, .int ((165 + (1000 * v1)) + v3), .ref a60]) := by
          intro H locs ls hW hS hl
          replace hm := ob hm; obtain ⟨σ67, e68, hm⟩ := hm
          refine r_uI C0 hW hS e68 dX9_mergesInto_205 (fun H locs hW hS => ?_)
          replace hm := ob hm; obtain ⟨x69, e70, hm⟩ := hm
          refine lv_iinc (v := x69) (lv' := [(3, .int x69), (0, .ref v0), (1, .int v1), (2, .int v2)]) hx hb dX9_mergesInto_206 hl (k := 3) rfl (Option.some.inj e70) (by decide) rfl (fun ls hl => ?_)
          refine lv_goto (tgt := 93) hx hb dX9_mergesInto_209 (by decide) ?_
          exact ih hm C0 hW hS (lv_sub hl [1, 2, 3, 0] rfl) kk
        clear hm
        have hm := e71
        clear e71
        refine lv_if_eq (tgt := 198) hx hb dX9_mergesInto_183 (by decide) (fun h62 => ?_) (fun h62 => ?_)
        · rw [if_pos h62] at hm
          refine lv_iload hx hb dX9_mergesInto_198 (lv_at hl 1 rfl) ?_
          refine lv_goto (tgt := 205) hx hb dX9_mergesInto_200 (by decide) ?_
          have hq1 := Option.some.inj hm; subst hq1
          exact J205_62 _ _ _ hW hS (lv_sub hl [2, 3, 4, 5] rfl)
        · rw [if_neg h62] at hm
          refine lv_iload hx hb dX9_mergesInto_186 (lv_at hl 1 rfl) ?_
          refine lv_if_le (tgt := 203) hx hb dX9_mergesInto_188 (by decide) (fun h64 => ?_) (fun h64 => ?_)
          · rw [if_pos h64] at hm
            refine lv_iload hx hb dX9_mergesInto_203 (lv_at hl 0 rfl) ?_
            have hq1 := Option.some.inj hm; subst hq1
            exact J205_62 _ _ _ hW hS (lv_sub hl [2, 3, 4, 5] rfl)
          · rw [if_neg h64] at hm
            refine lv_iload hx hb dX9_mergesInto_191 (lv_at hl 1 rfl) ?_
            refine lv_iload hx hb dX9_mergesInto_193 (lv_at hl 0 rfl) ?_
            refine lv_icmp_ge (tgt := 203) hx hb dX9_mergesInto_195 (by decide) (fun h65 => ?_) (fun h65 => ?_)
            · rw [if_pos h65] at hm
              refine lv_iload hx hb dX9_mergesInto_203 (lv_at hl 0 rfl) ?_
              have hq1 := Option.some.inj hm; subst hq1
              exact J205_62 _ _ _ hW hS (lv_sub hl [2, 3, 4, 5] rfl)
            · rw [if_neg h65] at hm
              refine lv_iload hx hb dX9_mergesInto_198 (lv_at hl 1 rfl) ?_
              refine lv_goto (tgt := 205) hx hb dX9_mergesInto_200 (by decide) ?_
              have hq1 := Option.some.inj hm; subst hq1
              exact J205_62 _ _ _ hW hS (lv_sub hl [2, 3, 4, 5] rfl)
      clear hm
      have hm := e72
      clear e72
      refine lv_if_ne (tgt := 163) hx hb dX9_mergesInto_151 (by decide) (fun h54 => ?_) (fun h54 => ?_)
      · rw [if_neg h54] at hm
        refine lv_iconst (v := 0) hx hb dX9_mergesInto_163 (by decide) ?_
        have hq1 := Option.some.inj hm; subst hq1
        exact J164_54 _ _ _ hW hS (lv_sub hl [0, 1, 2, 3, 4, 5] rfl)
      · rw [if_pos h54] at hm
        refine lv_iload hx hb dX9_mergesInto_154 (lv_at hl 1 rfl) ?_
        refine lv_if_le (tgt := 163) hx hb dX9_mergesInto_156 (by decide) (fun h56 => ?_) (fun h56 => ?_)
        · rw [if_pos h56] at hm
          refine lv_iconst (v := 0) hx hb dX9_mergesInto_163 (by decide) ?_
          have hq1 := Option.some.inj hm; subst hq1
          exact J164_54 _ _ _ hW hS (lv_sub hl [0, 1, 2, 3, 4, 5] rfl)
        · rw [if_neg h56] at hm
          refine lv_iconst (v := 1) hx hb dX9_mergesInto_159 (by decide) ?_
          refine lv_goto (tgt := 164) hx hb dX9_mergesInto_160 (by decide) ?_
          have hq1 := Option.some.inj hm; subst hq1
          exact J164_54 _ _ _ hW hS (lv_sub hl [0, 1, 2, 3, 4, 5] rfl)
set_option maxHeartbeats 4000000 in
set_option maxRecDepth 100000 in
theorem b_X9_mergesInto {l : Launch} {D : va_G} {ca : Nat → ClassId} {A : Nat → Prop} {N : Nat} {σ : zS} {v0 : Nat} {v1 : Int32} {v2 : Int32} {r0 : Int32} {σ' : zS} (hm : m_X9_mergesInto N σ v0 v1 v2 = some (r0, σ')) : Met l yX9_mergesInto (.code yX9_mergesInto cX9_mergesInto 6 (some .int) :: wsL_law) ({ frames := 5, cells := 0, slots := 0, locals := 113 } : Room) (va_Pc [.ref v0, .int v1, .int v2] (zP D ca A σ)) (zQi r0 D ca A σ') 0 0 A := by
  refine zMk (by decide +kernel) (Nat.le_of_ble_eq_true rfl) ?_
  intro p e s m below meth c C0 hr hlocks hin hW ls hl
  have hx := C0.1
  have hb := C0.2.1
  have hS : va_S A s.heap s.heap [] := va_S.rf
  have hl : lv_has ls 6 [(0, .ref v0), (1, .int v1), (2, .int v2)] := hl
  unfold m_X9_mergesInto at hm
  refine lv_aload_n hx hb dX9_mergesInto_0 rfl (lv_at hl 0 rfl) ?_
  refine lv_iload_n hx hb dX9_mergesInto_1 rfl (lv_at hl 1 rfl) ?_
  replace hm := ob hm; obtain ⟨u1, e2, hm⟩ := hm
  replace hm := ob hm; obtain ⟨x4, e3, hm⟩ := hm
  refine z_calli (z_runV (As := [.int v1]) (rest := []) (ci := 9) rfl rfl C0 lv_X9_116 (b_X9_isTable e3) hW hS e2 rfl hl.1 rfl (Nat.le_of_ble_eq_true rfl) dX9_mergesInto_2 rfl rfl ⟨Nat.le_of_ble_eq_true rfl, Nat.le_of_ble_eq_true rfl⟩ ⟨Nat.le_refl _, Nat.le_refl _⟩) hS (fun H locs hW hS => ?_)
  refine lv_if_eq (tgt := 21) hx hb dX9_mergesInto_5 (by decide) (fun h5 => ?_) (fun h5 => ?_)
  · rw [if_pos h5] at hm
    refine lv_iconst (v := (-1)) hx hb dX9_mergesInto_21 (by decide) ?_
    obtain ⟨hq8, hq9⟩ := Prod.mk.inj (Option.some.inj hm); subst hq8; subst hq9
    exact r_iret C0 hr hlocks hW hS dX9_mergesInto_22
  · rw [if_neg h5] at hm
    refine lv_aload_n hx hb dX9_mergesInto_8 rfl (lv_at hl 0 rfl) ?_
    refine lv_iload_n hx hb dX9_mergesInto_9 rfl (lv_at hl 2 rfl) ?_
    replace hm := ob hm; obtain ⟨u6, e7, hm⟩ := hm
    replace hm := ob hm; obtain ⟨x9, e8, hm⟩ := hm
    refine z_calli (z_runV (As := [.int v2]) (rest := []) (ci := 9) rfl rfl C0 lv_X9_116 (b_X9_isTable e8) hW hS e7 rfl hl.1 rfl (Nat.le_of_ble_eq_true rfl) dX9_mergesInto_10 rfl rfl ⟨Nat.le_of_ble_eq_true rfl, Nat.le_of_ble_eq_true rfl⟩ ⟨Nat.le_refl _, Nat.le_refl _⟩) hS (fun H locs hW hS => ?_)
    refine lv_if_eq (tgt := 21) hx hb dX9_mergesInto_13 (by decide) (fun h10 => ?_) (fun h10 => ?_)
    · rw [if_pos h10] at hm
      refine lv_iconst (v := (-1)) hx hb dX9_mergesInto_21 (by decide) ?_
      obtain ⟨hq8, hq9⟩ := Prod.mk.inj (Option.some.inj hm); subst hq8; subst hq9
      exact r_iret C0 hr hlocks hW hS dX9_mergesInto_22
    · rw [if_neg h10] at hm
      refine lv_iload_n hx hb dX9_mergesInto_16 rfl (lv_at hl 1 rfl) ?_
      refine lv_iload_n hx hb dX9_mergesInto_17 rfl (lv_at hl 2 rfl) ?_
      refine lv_icmp_ne (tgt := 23) hx hb dX9_mergesInto_18 (by decide) (fun h11 => ?_) (fun h11 => ?_)
      · rw [if_neg h11] at hm
        refine lv_aload_n hx hb dX9_mergesInto_23 rfl (lv_at hl 0 rfl) ?_
        refine lv_iload_n hx hb dX9_mergesInto_24 rfl (lv_at hl 1 rfl) ?_
        refine lv_iload_n hx hb dX9_mergesInto_25 rfl (lv_at hl 2 rfl) ?_
        replace hm := ob hm; obtain ⟨u12, e13, hm⟩ := hm
        replace hm := ob hm; obtain ⟨x15, e14, hm⟩ := hm
        refine z_calli (z_runV (As := [.int v1, .int v2]) (rest := []) (ci := 9) rfl rfl C0 lv_X9_127 (b_X9_areAlike e14) hW hS e13 rfl hl.1 rfl (Nat.le_of_ble_eq_true rfl) dX9_mergesInto_26 rfl rfl ⟨Nat.le_of_ble_eq_true rfl, Nat.le_of_ble_eq_true rfl⟩ ⟨Nat.le_refl _, Nat.le_refl _⟩) hS (fun H locs hW hS => ?_)
        refine lv_if_ne (tgt := 35) hx hb dX9_mergesInto_29 (by decide) (fun h16 => ?_) (fun h16 => ?_)
        · rw [if_neg h16] at hm
          refine lv_aload_n hx hb dX9_mergesInto_35 rfl (lv_at hl 0 rfl) ?_
          replace hm := ob hm; obtain ⟨a17, e18, hm⟩ := hm
          refine r_getA C0 hW fl_X9_7 e18 dX9_mergesInto_36 ?_
          refine lv_bipush (v := 23) hx hb dX9_mergesInto_39 (by decide) ?_
          refine lv_iload_n hx hb dX9_mergesInto_41 rfl (lv_at hl 1 rfl) ?_
          refine lv_imul hx hb dX9_mergesInto_42 ?_
          refine lv_aload_n hx hb dX9_mergesInto_43 rfl (lv_at hl 0 rfl) ?_
          replace hm := ob hm; obtain ⟨a19, e20, hm⟩ := hm
          refine r_getA C0 hW fl_X9_7 e20 dX9_mergesInto_44 ?_
          refine lv_bipush (v := 23) hx hb dX9_mergesInto_47 (by decide) ?_
          refine lv_iload_n hx hb dX9_mergesInto_49 rfl (lv_at hl 2 rfl) ?_
          refine lv_imul hx hb dX9_mergesInto_50 ?_
          replace hm := ob hm; obtain ⟨σ22, e21, hm⟩ := hm
          refine z_callv (z_runS (As := [.ref a17, .int (23 * v1), .ref a19, .int (23 * v2)]) (rest := []) C0 ls_X9_131 (b_X9_mingles e21) hW hS rfl hl.1 rfl (Nat.le_of_ble_eq_true rfl) dX9_mergesInto_51 rfl rfl ⟨Nat.le_of_ble_eq_true rfl, Nat.le_of_ble_eq_true rfl⟩ ⟨Nat.le_refl _, Nat.le_refl _⟩) hS (fun H locs hW hS => ?_)
          refine lv_aload_n hx hb dX9_mergesInto_54 rfl (lv_at hl 0 rfl) ?_
          replace hm := ob hm; obtain ⟨a23, e24, hm⟩ := hm
          refine r_getA C0 hW fl_X9_7 e24 dX9_mergesInto_55 ?_
          refine lv_bipush (v := 23) hx hb dX9_mergesInto_58 (by decide) ?_
          refine lv_iload_n hx hb dX9_mergesInto_60 rfl (lv_at hl 1 rfl) ?_
          refine lv_imul hx hb dX9_mergesInto_61 ?_
          refine lv_iconst (v := 2) hx hb dX9_mergesInto_62 (by decide) ?_
          refine lv_iadd hx hb dX9_mergesInto_63 ?_
          refine lv_aload_n hx hb dX9_mergesInto_64 rfl (lv_at hl 0 rfl) ?_
          refine lv_aload_n hx hb dX9_mergesInto_65 rfl (lv_at hl 0 rfl) ?_
          replace hm := ob hm; obtain ⟨a25, e26, hm⟩ := hm
          refine r_getA C0 hW fl_X9_7 e26 dX9_mergesInto_66 ?_
          refine lv_bipush (v := 23) hx hb dX9_mergesInto_69 (by decide) ?_
          refine lv_iload_n hx hb dX9_mergesInto_71 rfl (lv_at hl 1 rfl) ?_
          refine lv_imul hx hb dX9_mergesInto_72 ?_
          refine lv_iconst (v := 2) hx hb dX9_mergesInto_73 (by decide) ?_
          refine lv_iadd hx hb dX9_mergesInto_74 ?_
          replace hm := ob hm; obtain ⟨x27, e28, hm⟩ := hm
          refine r_aI C0 hW e28 dX9_mergesInto_75 ?_
          refine lv_aload_n hx hb dX9_mergesInto_76 rfl (lv_at hl 0 rfl) ?_
          replace hm := ob hm; obtain ⟨a29, e30, hm⟩ := hm
          refine r_getA C0 hW fl_X9_7 e30 dX9_mergesInto_77 ?_
          refine lv_bipush (v := 23) hx hb dX9_mergesInto_80 (by decide) ?_
          refine lv_iload_n hx hb dX9_mergesInto_82 rfl (lv_at hl 2 rfl) ?_
          refine lv_imul hx hb dX9_mergesInto_83 ?_
          refine lv_iconst (v := 2) hx hb dX9_mergesInto_84 (by decide) ?_
          refine lv_iadd hx hb dX9_mergesInto_85 ?_
          replace hm := ob hm; obtain ⟨x31, e32, hm⟩ := hm
          refine r_aI C0 hW e32 dX9_mergesInto_86 ?_
          replace hm := ob hm; obtain ⟨u33, e34, hm⟩ := hm
          replace hm := ob hm; obtain ⟨x36, e35, hm⟩ := hm
          refine z_calli (z_runV (As := [.int x27, .int x31]) (rest := [.int ((23 * v1) + 2), .ref a23]) (ci := 9) rfl rfl C0 lv_X9_113 (b_X9_added e35) hW hS e34 rfl hl.1 rfl (Nat.le_of_ble_eq_true rfl) dX9_mergesInto_87 rfl rfl ⟨Nat.le_of_ble_eq_true rfl, Nat.le_of_ble_eq_true rfl⟩ ⟨Nat.le_refl _, Nat.le_refl _⟩) hS (fun H locs hW hS => ?_)
          replace hm := ob hm; obtain ⟨σ37, e38, hm⟩ := hm
          refine r_uI C0 hW hS e38 dX9_mergesInto_90 (fun H locs hW hS => ?_)
          refine lv_iconst (v := 0) hx hb dX9_mergesInto_91 (by decide) ?_
          refine lv_istore_n (lv' := [(3, .int 0), (0, .ref v0), (1, .int v1), (2, .int v2)]) hx hb dX9_mergesInto_92 rfl hl (by decide) rfl (fun ls hl => ?_)
          replace hm := ob hm; obtain ⟨σ73, e74, hm⟩ := hm
          refine w_X9_mergesInto_L93 N N e74 C0 hW hS (lv_sub hl [1, 2, 3, 0] rfl) (fun H locs ls hW hS hl => ?_)
          refine lv_aload_n hx hb dX9_mergesInto_212 rfl (lv_at hl 0 rfl) ?_
          refine lv_iload_n hx hb dX9_mergesInto_213 rfl (lv_at hl 1 rfl) ?_
          replace hm := ob hm; obtain ⟨u75, e76, hm⟩ := hm
          replace hm := ob hm; obtain ⟨x78, e77, hm⟩ := hm
          refine z_calli (z_runV (As := [.int v1]) (rest := []) (ci := 9) rfl rfl C0 lv_X9_95 (b_X9_toldOf e77) hW hS e76 rfl hl.1 rfl (Nat.le_of_ble_eq_true rfl) dX9_mergesInto_214 rfl rfl ⟨Nat.le_of_ble_eq_true rfl, Nat.le_of_ble_eq_true rfl⟩ ⟨Nat.le_refl _, Nat.le_refl _⟩) hS (fun H locs hW hS => ?_)
          obtain ⟨hq8, hq9⟩ := Prod.mk.inj (Option.some.inj hm); subst hq8; subst hq9
          exact r_iret C0 hr hlocks hW hS dX9_mergesInto_217
        · rw [if_pos h16] at hm
          refine lv_bipush (v := (-2)) hx hb dX9_mergesInto_32 (by decide) ?_
          obtain ⟨hq8, hq9⟩ := Prod.mk.inj (Option.some.inj hm); subst hq8; subst hq9
          exact r_iret C0 hr hlocks hW hS dX9_mergesInto_34
      · rw [if_pos h11] at hm
        refine lv_iconst (v := (-1)) hx hb dX9_mergesInto_21 (by decide) ?_
        obtain ⟨hq8, hq9⟩ := Prod.mk.inj (Option.some.inj hm); subst hq8; subst hq9
        exact r_iret C0 hr hlocks hW hS dX9_mergesInto_22
