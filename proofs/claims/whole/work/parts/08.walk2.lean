set_option maxHeartbeats 4000000 in
set_option maxRecDepth 100000 in
theorem b_X4_unite {l : Launch} {D : va_G} {ca : Nat → ClassId} {A : Nat → Prop} {N : Nat} {σ : zS} {v0 : Nat} {v1 : Int32} {v2 : Int32} {r0 : Int32} {σ' : zS} (hm : m_X4_unite N σ v0 v1 v2 = some (r0, σ')) : Met l yX4_unite (.code yX4_unite cX4_unite 5 (some .int) :: wsL_law) ({ frames := 3, cells := 0, slots := 0, locals := 71 } : Room) (va_Pc [.ref v0, .int v1, .int v2] (zP D ca A σ)) (zQi r0 D ca A σ') 0 0 A := by
  refine zMk (by decide +kernel) (Nat.le_of_ble_eq_true rfl) ?_
  intro p e s m below meth c C0 hr hlocks hin hW ls hl
  have hx := C0.1
  have hb := C0.2.1
  have hS : va_S A s.heap s.heap [] := va_S.rf
  have hl : lv_has ls 5 [(0, .ref v0), (1, .int v1), (2, .int v2)] := hl
  unfold m_X4_unite at hm
  refine lv_aload_n hx hb dX4_unite_0 rfl (lv_at hl 0 rfl) ?_
  refine lv_iload_n hx hb dX4_unite_1 rfl (lv_at hl 1 rfl) ?_
  replace hm := ob hm; obtain ⟨u1, e2, hm⟩ := hm
  replace hm := ob hm; obtain ⟨r4, e3, hm⟩ := hm
  refine z_callq (z_runV (As := [.int v1]) (rest := []) (ci := 4) rfl rfl C0 lv_X4_36 (b_X4_find e3) hW hS e2 rfl hl.1 rfl (Nat.le_of_ble_eq_true rfl) dX4_unite_2 rfl rfl ⟨Nat.le_of_ble_eq_true rfl, Nat.le_of_ble_eq_true rfl⟩ ⟨Nat.le_refl _, Nat.le_refl _⟩) hS (fun H locs hW hS => ?_)
  replace hm := oe hm; rcases hm with ⟨hn, hm⟩ | ⟨a5, hn, hm⟩
  · subst hn
    refine lv_astore_nN (lv' := [(3, .null), (0, .ref v0), (1, .int v1), (2, .int v2)]) hx hb dX4_unite_5 rfl hl (by decide) rfl (fun ls hl => ?_)
    refine lv_aload_n hx hb dX4_unite_6 rfl (lv_at hl 1 rfl) ?_
    refine lv_iload_n hx hb dX4_unite_7 rfl (lv_at hl 3 rfl) ?_
    replace hm := ob hm; obtain ⟨u6, e7, hm⟩ := hm
    replace hm := ob hm; obtain ⟨r9, e8, hm⟩ := hm
    refine z_callq (z_runV (As := [.int v2]) (rest := []) (ci := 4) rfl rfl C0 lv_X4_36 (b_X4_find e8) hW hS e7 rfl hl.1 rfl (Nat.le_of_ble_eq_true rfl) dX4_unite_8 rfl rfl ⟨Nat.le_of_ble_eq_true rfl, Nat.le_of_ble_eq_true rfl⟩ ⟨Nat.le_refl _, Nat.le_refl _⟩) hS (fun H locs hW hS => ?_)
    replace hm := oe hm; rcases hm with ⟨hn, hm⟩ | ⟨a10, hn, hm⟩
    · subst hn
      refine lv_astoreN (lv' := [(4, .null), (3, .null), (0, .ref v0), (1, .int v1), (2, .int v2)]) hx hb dX4_unite_11 hl (by decide) rfl (fun ls hl => ?_)
      refine lv_aload_nN hx hb dX4_unite_13 rfl (lv_at hl 1 rfl) ?_
      refine lv_ifnullN (tgt := 22) hx hb dX4_unite_14 (by decide) ?_
      refine lv_iconst (v := (-1)) hx hb dX4_unite_22 (by decide) ?_
      obtain ⟨hq8, hq9⟩ := Prod.mk.inj (Option.some.inj hm); subst hq8; subst hq9
      exact r_iret C0 hr hlocks hW hS dX4_unite_23
    · subst hn
      refine lv_astore (lv' := [(4, .ref a10), (3, .null), (0, .ref v0), (1, .int v1), (2, .int v2)]) hx hb dX4_unite_11 hl (by decide) rfl (fun ls hl => ?_)
      refine lv_aload_nN hx hb dX4_unite_13 rfl (lv_at hl 1 rfl) ?_
      refine lv_ifnullN (tgt := 22) hx hb dX4_unite_14 (by decide) ?_
      refine lv_iconst (v := (-1)) hx hb dX4_unite_22 (by decide) ?_
      obtain ⟨hq8, hq9⟩ := Prod.mk.inj (Option.some.inj hm); subst hq8; subst hq9
      exact r_iret C0 hr hlocks hW hS dX4_unite_23
  · subst hn
    refine lv_astore_n (lv' := [(3, .ref a5), (0, .ref v0), (1, .int v1), (2, .int v2)]) hx hb dX4_unite_5 rfl hl (by decide) rfl (fun ls hl => ?_)
    refine lv_aload_n hx hb dX4_unite_6 rfl (lv_at hl 1 rfl) ?_
    refine lv_iload_n hx hb dX4_unite_7 rfl (lv_at hl 3 rfl) ?_
    replace hm := ob hm; obtain ⟨u11, e12, hm⟩ := hm
    replace hm := ob hm; obtain ⟨r14, e13, hm⟩ := hm
    refine z_callq (z_runV (As := [.int v2]) (rest := []) (ci := 4) rfl rfl C0 lv_X4_36 (b_X4_find e13) hW hS e12 rfl hl.1 rfl (Nat.le_of_ble_eq_true rfl) dX4_unite_8 rfl rfl ⟨Nat.le_of_ble_eq_true rfl, Nat.le_of_ble_eq_true rfl⟩ ⟨Nat.le_refl _, Nat.le_refl _⟩) hS (fun H locs hW hS => ?_)
    replace hm := oe hm; rcases hm with ⟨hn, hm⟩ | ⟨a15, hn, hm⟩
    · subst hn
      refine lv_astoreN (lv' := [(4, .null), (3, .ref a5), (0, .ref v0), (1, .int v1), (2, .int v2)]) hx hb dX4_unite_11 hl (by decide) rfl (fun ls hl => ?_)
      refine lv_aload_n hx hb dX4_unite_13 rfl (lv_at hl 1 rfl) ?_
      refine lv_ifnull hx hb dX4_unite_14 ?_
      refine lv_aloadN hx hb dX4_unite_17 (lv_at hl 0 rfl) ?_
      refine lv_ifnonnullN hx hb dX4_unite_19 ?_
      refine lv_iconst (v := (-1)) hx hb dX4_unite_22 (by decide) ?_
      obtain ⟨hq8, hq9⟩ := Prod.mk.inj (Option.some.inj hm); subst hq8; subst hq9
      exact r_iret C0 hr hlocks hW hS dX4_unite_23
    · subst hn
      refine lv_astore (lv' := [(4, .ref a15), (3, .ref a5), (0, .ref v0), (1, .int v1), (2, .int v2)]) hx hb dX4_unite_11 hl (by decide) rfl (fun ls hl => ?_)
      refine lv_aload_n hx hb dX4_unite_13 rfl (lv_at hl 1 rfl) ?_
      refine lv_ifnull hx hb dX4_unite_14 ?_
      refine lv_aload hx hb dX4_unite_17 (lv_at hl 0 rfl) ?_
      refine lv_ifnonnull (tgt := 24) hx hb dX4_unite_19 (by decide) ?_
      refine lv_aload_n hx hb dX4_unite_24 rfl (lv_at hl 1 rfl) ?_
      replace hm := ob hm; obtain ⟨a16, e17, hm⟩ := hm
      refine r_getA C0 hW fl_X4_72 e17 dX4_unite_25 ?_
      refine lv_aload hx hb dX4_unite_28 (lv_at hl 0 rfl) ?_
      replace hm := ob hm; obtain ⟨a18, e19, hm⟩ := hm
      refine r_getA C0 hW fl_X4_72 e19 dX4_unite_30 ?_
      replace hm := ob hm; obtain ⟨u20, e21, hm⟩ := hm
      replace hm := ob hm; obtain ⟨σ23, e22, hm⟩ := hm
      refine z_callv (z_runV (As := [.ref a18]) (rest := []) (ci := 3) rfl rfl C0 lv_X4_114 (b_X3_unite e22) hW hS e21 rfl hl.1 rfl (Nat.le_of_ble_eq_true rfl) dX4_unite_33 rfl rfl ⟨Nat.le_of_ble_eq_true rfl, Nat.le_of_ble_eq_true rfl⟩ ⟨Nat.le_refl _, Nat.le_refl _⟩) hS (fun H locs hW hS => ?_)
      refine lv_aload_n hx hb dX4_unite_36 rfl (lv_at hl 1 rfl) ?_
      refine lv_aload hx hb dX4_unite_37 (lv_at hl 0 rfl) ?_
      replace hm := ob hm; obtain ⟨u24, e25, hm⟩ := hm
      replace hm := ob hm; obtain ⟨σ27, e26, hm⟩ := hm
      refine z_callv (z_runV (As := [.ref a15]) (rest := []) (ci := 5) rfl rfl C0 lv_X4_117 (b_X5_knowAllOf e26) hW hS e25 rfl hl.1 rfl (Nat.le_of_ble_eq_true rfl) dX4_unite_39 rfl rfl ⟨Nat.le_of_ble_eq_true rfl, Nat.le_of_ble_eq_true rfl⟩ ⟨Nat.le_refl _, Nat.le_refl _⟩) hS (fun H locs hW hS => ?_)
      refine lv_aload_n hx hb dX4_unite_42 rfl (lv_at hl 1 rfl) ?_
      replace hm := ob hm; obtain ⟨a28, e29, hm⟩ := hm
      refine r_getA C0 hW fl_X4_72 e29 dX4_unite_43 ?_
      replace hm := ob hm; obtain ⟨u30, e31, hm⟩ := hm
      replace hm := ob hm; obtain ⟨x33, e32, hm⟩ := hm
      refine z_calli (z_runV (As := []) (rest := []) (ci := 3) rfl rfl C0 lv_X4_110 (b_X3_told e32) hW hS e31 rfl hl.1 rfl (Nat.le_of_ble_eq_true rfl) dX4_unite_46 rfl rfl ⟨Nat.le_of_ble_eq_true rfl, Nat.le_of_ble_eq_true rfl⟩ ⟨Nat.le_refl _, Nat.le_refl _⟩) hS (fun H locs hW hS => ?_)
      obtain ⟨hq8, hq9⟩ := Prod.mk.inj (Option.some.inj hm); subst hq8; subst hq9
      exact r_iret C0 hr hlocks hW hS dX4_unite_49
set_option maxHeartbeats 4000000 in
set_option maxRecDepth 100000 in
theorem b_X5_beginAgain {l : Launch} {D : va_G} {ca : Nat → ClassId} {A : Nat → Prop} {N : Nat} {σ : zS} {v0 : Nat} {σ' : zS} (hm : m_X5_beginAgain N σ v0 = some σ') : Met l yX5_beginAgain (.code yX5_beginAgain cX5_beginAgain 2 none :: wsL_law) ({ frames := 3, cells := 0, slots := 0, locals := 67 } : Room) (va_Pc [.ref v0] (zP D ca A σ)) (zQv D ca A σ') 0 0 A := by
  refine zMk (by decide +kernel) (Nat.le_of_ble_eq_true rfl) ?_
  intro p e s m below meth c C0 hr hlocks hin hW ls hl
  have hx := C0.1
  have hb := C0.2.1
  have hS : va_S A s.heap s.heap [] := va_S.rf
  have hl : lv_has ls 2 [(0, .ref v0)] := hl
  unfold m_X5_beginAgain at hm
  refine lv_aload_n hx hb dX5_beginAgain_0 rfl (lv_at hl 0 rfl) ?_
  replace hm := ob hm; obtain ⟨x1, e2, hm⟩ := hm
  refine r_getI C0 hW fl_X5_36 e2 dX5_beginAgain_1 ?_
  refine lv_istore_n (lv' := [(1, .int x1), (0, .ref v0)]) hx hb dX5_beginAgain_4 rfl hl (by decide) rfl (fun ls hl => ?_)
  refine lv_aload_n hx hb dX5_beginAgain_5 rfl (lv_at hl 1 rfl) ?_
  refine lv_aload_n hx hb dX5_beginAgain_6 rfl (lv_at hl 1 rfl) ?_
  replace hm := ob hm; obtain ⟨a3, e4, hm⟩ := hm
  refine r_getA C0 hW fl_X5_12 e4 dX5_beginAgain_7 ?_
  replace hm := ob hm; obtain ⟨x5, e6, hm⟩ := hm
  refine r_getI C0 hW fl_X5_39 e6 dX5_beginAgain_10 ?_
  refine lv_aload_n hx hb dX5_beginAgain_13 rfl (lv_at hl 1 rfl) ?_
  replace hm := ob hm; obtain ⟨a7, e8, hm⟩ := hm
  refine r_getA C0 hW fl_X5_12 e8 dX5_beginAgain_14 ?_
  replace hm := ob hm; obtain ⟨x9, e10, hm⟩ := hm
  refine r_getI C0 hW fl_X5_42 e10 dX5_beginAgain_17 ?_
  replace hm := ob hm; obtain ⟨u11, e12, hm⟩ := hm
  replace hm := ob hm; obtain ⟨σ14, e13, hm⟩ := hm
  refine z_callv (z_runV (As := [.int x5, .int x9]) (rest := []) (ci := 5) rfl rfl C0 lv_X5_45 (b_X5_begin e13) hW hS e12 rfl hl.1 rfl (Nat.le_of_ble_eq_true rfl) dX5_beginAgain_20 rfl rfl ⟨Nat.le_of_ble_eq_true rfl, Nat.le_of_ble_eq_true rfl⟩ ⟨Nat.le_refl _, Nat.le_refl _⟩) hS (fun H locs hW hS => ?_)
  refine lv_aload_n hx hb dX5_beginAgain_23 rfl (lv_at hl 1 rfl) ?_
  refine lv_iload_n hx hb dX5_beginAgain_24 rfl (lv_at hl 0 rfl) ?_
  refine lv_iconst (v := 1) hx hb dX5_beginAgain_25 (by decide) ?_
  refine lv_iadd hx hb dX5_beginAgain_26 ?_
  replace hm := ob hm; obtain ⟨σ15, e16, hm⟩ := hm
  refine r_putI C0 hW hS fl_X5_36 e16 dX5_beginAgain_27 (fun H locs hW hS => ?_)
  cases hm
  exact r_vret C0 hr hlocks hW hS dX5_beginAgain_30
set_option maxHeartbeats 4000000 in
set_option maxRecDepth 100000 in
theorem b_X4_empty {l : Launch} {D : va_G} {ca : Nat → ClassId} {A : Nat → Prop} {N : Nat} {σ : zS} {v0 : Nat} {v1 : Int32} {r0 : Int32} {σ' : zS} (hm : m_X4_empty N σ v0 v1 = some (r0, σ')) : Met l yX4_empty (.code yX4_empty cX4_empty 4 (some .int) :: wsL_law) ({ frames := 4, cells := 0, slots := 0, locals := 88 } : Room) (va_Pc [.ref v0, .int v1] (zP D ca A σ)) (zQi r0 D ca A σ') 0 0 A := by
  refine zMk (by decide +kernel) (Nat.le_of_ble_eq_true rfl) ?_
  intro p e s m below meth c C0 hr hlocks hin hW ls hl
  have hx := C0.1
  have hb := C0.2.1
  have hS : va_S A s.heap s.heap [] := va_S.rf
  have hl : lv_has ls 4 [(0, .ref v0), (1, .int v1)] := hl
  unfold m_X4_empty at hm
  refine lv_aload_n hx hb dX4_empty_0 rfl (lv_at hl 0 rfl) ?_
  refine lv_iload_n hx hb dX4_empty_1 rfl (lv_at hl 1 rfl) ?_
  replace hm := ob hm; obtain ⟨u1, e2, hm⟩ := hm
  replace hm := ob hm; obtain ⟨r4, e3, hm⟩ := hm
  refine z_callq (z_runV (As := [.int v1]) (rest := []) (ci := 4) rfl rfl C0 lv_X4_36 (b_X4_find e3) hW hS e2 rfl hl.1 rfl (Nat.le_of_ble_eq_true rfl) dX4_empty_2 rfl rfl ⟨Nat.le_of_ble_eq_true rfl, Nat.le_of_ble_eq_true rfl⟩ ⟨Nat.le_refl _, Nat.le_refl _⟩) hS (fun H locs hW hS => ?_)
  replace hm := oe hm; rcases hm with ⟨hn, hm⟩ | ⟨a5, hn, hm⟩
  · subst hn
    refine lv_astore_nN (lv' := [(2, .null), (0, .ref v0), (1, .int v1)]) hx hb dX4_empty_5 rfl hl (by decide) rfl (fun ls hl => ?_)
    refine lv_aload_nN hx hb dX4_empty_6 rfl (lv_at hl 0 rfl) ?_
    refine lv_ifnonnullN hx hb dX4_empty_7 ?_
    refine lv_iconst (v := (-1)) hx hb dX4_empty_10 (by decide) ?_
    obtain ⟨hq8, hq9⟩ := Prod.mk.inj (Option.some.inj hm); subst hq8; subst hq9
    exact r_iret C0 hr hlocks hW hS dX4_empty_11
  · subst hn
    refine lv_astore_n (lv' := [(2, .ref a5), (0, .ref v0), (1, .int v1)]) hx hb dX4_empty_5 rfl hl (by decide) rfl (fun ls hl => ?_)
    refine lv_aload_n hx hb dX4_empty_6 rfl (lv_at hl 0 rfl) ?_
    refine lv_ifnonnull (tgt := 12) hx hb dX4_empty_7 (by decide) ?_
    refine lv_aload_n hx hb dX4_empty_12 rfl (lv_at hl 0 rfl) ?_
    replace hm := ob hm; obtain ⟨x6, e7, hm⟩ := hm
    refine r_getI C0 hW fl_X4_120 e7 dX4_empty_13 ?_
    refine lv_istore_n (lv' := [(3, .int x6), (2, .ref a5), (0, .ref v0), (1, .int v1)]) hx hb dX4_empty_16 rfl hl (by decide) rfl (fun ls hl => ?_)
    refine lv_aload_n hx hb dX4_empty_17 rfl (lv_at hl 2 rfl) ?_
    replace hm := ob hm; obtain ⟨a8, e9, hm⟩ := hm
    refine r_getA C0 hW fl_X4_20 e9 dX4_empty_18 ?_
    refine lv_iload_n hx hb dX4_empty_21 rfl (lv_at hl 3 rfl) ?_
    refine lv_aload_n hx hb dX4_empty_22 rfl (lv_at hl 1 rfl) ?_
    replace hm := ob hm; obtain ⟨a10, e11, hm⟩ := hm
    refine r_getA C0 hW fl_X4_72 e11 dX4_empty_23 ?_
    replace hm := ob hm; obtain ⟨u12, e13, hm⟩ := hm
    replace hm := ob hm; obtain ⟨x15, e14, hm⟩ := hm
    refine z_calli (z_runV (As := []) (rest := [.int v1, .ref a8]) (ci := 3) rfl rfl C0 lv_X4_110 (b_X3_told e14) hW hS e13 rfl hl.1 rfl (Nat.le_of_ble_eq_true rfl) dX4_empty_26 rfl rfl ⟨Nat.le_of_ble_eq_true rfl, Nat.le_of_ble_eq_true rfl⟩ ⟨Nat.le_refl _, Nat.le_refl _⟩) hS (fun H locs hW hS => ?_)
    refine lv_iload_n hx hb dX4_empty_29 rfl (lv_at hl 0 rfl) ?_
    replace hm := ob hm; obtain ⟨u16, e17, hm⟩ := hm
    replace hm := ob hm; obtain ⟨σ19, e18, hm⟩ := hm
    refine z_callv (z_runV (As := [.int v1, .int x15, .int x6]) (rest := []) (ci := 2) rfl rfl C0 lv_X4_123 (b_X2_write e18) hW hS e17 rfl hl.1 rfl (Nat.le_of_ble_eq_true rfl) dX4_empty_30 rfl rfl ⟨Nat.le_of_ble_eq_true rfl, Nat.le_of_ble_eq_true rfl⟩ ⟨Nat.le_refl _, Nat.le_refl _⟩) hS (fun H locs hW hS => ?_)
    refine lv_aload_n hx hb dX4_empty_33 rfl (lv_at hl 1 rfl) ?_
    replace hm := ob hm; obtain ⟨u20, e21, hm⟩ := hm
    replace hm := ob hm; obtain ⟨σ23, e22, hm⟩ := hm
    refine z_callv (z_runV (As := []) (rest := []) (ci := 5) rfl rfl C0 lv_X4_127 (b_X5_beginAgain e22) hW hS e21 rfl hl.1 rfl (Nat.le_of_ble_eq_true rfl) dX4_empty_34 rfl rfl ⟨Nat.le_of_ble_eq_true rfl, Nat.le_of_ble_eq_true rfl⟩ ⟨Nat.le_refl _, Nat.le_refl _⟩) hS (fun H locs hW hS => ?_)
    refine lv_iload_n hx hb dX4_empty_37 rfl (lv_at hl 0 rfl) ?_
    obtain ⟨hq8, hq9⟩ := Prod.mk.inj (Option.some.inj hm); subst hq8; subst hq9
    exact r_iret C0 hr hlocks hW hS dX4_empty_38
set_option maxHeartbeats 4000000 in
set_option maxRecDepth 100000 in
theorem b_X4_carryOut {l : Launch} {D : va_G} {ca : Nat → ClassId} {A : Nat → Prop} {N : Nat} {σ : zS} {v0 : Nat} {v1 : Nat} {r0 : Int32} {σ' : zS} (hm : m_X4_carryOut N σ v0 v1 = some (r0, σ')) : Met l yX4_carryOut (.code yX4_carryOut cX4_carryOut 4 (some .int) :: wsL_law) ({ frames := 5, cells := 0, slots := 0, locals := 111 } : Room) (va_Pc [.ref v0, .ref v1] (zP D ca A σ)) (zQi r0 D ca A σ') 0 0 A := by
  refine zMk (by decide +kernel) (Nat.le_of_ble_eq_true rfl) ?_
  intro p e s m below meth c C0 hr hlocks hin hW ls hl
  have hx := C0.1
  have hb := C0.2.1
  have hS : va_S A s.heap s.heap [] := va_S.rf
  have hl : lv_has ls 4 [(0, .ref v0), (1, .ref v1)] := hl
  unfold m_X4_carryOut at hm
  refine lv_aload_n hx hb dX4_carryOut_0 rfl (lv_at hl 1 rfl) ?_
  refine lv_iconst (v := 0) hx hb dX4_carryOut_1 (by decide) ?_
  replace hm := ob hm; obtain ⟨u1, e2, hm⟩ := hm
  replace hm := ob hm; obtain ⟨x4, e3, hm⟩ := hm
  refine z_calli (z_runV (As := [.int 0]) (rest := []) (ci := 0) rfl rfl C0 lv_X4_43 (b_X0_numberAt e3) hW hS e2 rfl hl.1 rfl (Nat.le_of_ble_eq_true rfl) dX4_carryOut_2 rfl rfl ⟨Nat.le_of_ble_eq_true rfl, Nat.le_of_ble_eq_true rfl⟩ ⟨Nat.le_refl _, Nat.le_refl _⟩) hS (fun H locs hW hS => ?_)
  refine lv_istore_n (lv' := [(2, .int x4), (0, .ref v0), (1, .ref v1)]) hx hb dX4_carryOut_5 rfl hl (by decide) rfl (fun ls hl => ?_)
  refine lv_aload_n hx hb dX4_carryOut_6 rfl (lv_at hl 2 rfl) ?_
  refine lv_iconst (v := 1) hx hb dX4_carryOut_7 (by decide) ?_
  replace hm := ob hm; obtain ⟨u5, e6, hm⟩ := hm
  replace hm := ob hm; obtain ⟨x8, e7, hm⟩ := hm
  refine z_calli (z_runV (As := [.int 1]) (rest := []) (ci := 0) rfl rfl C0 lv_X4_43 (b_X0_numberAt e7) hW hS e6 rfl hl.1 rfl (Nat.le_of_ble_eq_true rfl) dX4_carryOut_8 rfl rfl ⟨Nat.le_of_ble_eq_true rfl, Nat.le_of_ble_eq_true rfl⟩ ⟨Nat.le_refl _, Nat.le_refl _⟩) hS (fun H locs hW hS => ?_)
  refine lv_istore_n (lv' := [(3, .int x8), (2, .int x4), (0, .ref v0), (1, .ref v1)]) hx hb dX4_carryOut_11 rfl hl (by decide) rfl (fun ls hl => ?_)
  refine lv_aload_n hx hb dX4_carryOut_12 rfl (lv_at hl 3 rfl) ?_
  replace hm := ob hm; obtain ⟨x9, e10, hm⟩ := hm
  refine r_getI C0 hW fl_X4_49 e10 dX4_carryOut_13 ?_
  by_cases h11 : x9 = 97
  · rw [if_pos h11] at hm
    refine z_top (congrArg some h11) ?_
    refine lv_lookup (tgt := 67) hx hb dX4_carryOut_16 (by decide) rfl (by decide) ?_
    refine lv_aload_n hx hb dX4_carryOut_67 rfl (lv_at hl 2 rfl) ?_
    refine lv_iload_n hx hb dX4_carryOut_68 rfl (lv_at hl 1 rfl) ?_
    refine lv_iload_n hx hb dX4_carryOut_69 rfl (lv_at hl 0 rfl) ?_
    refine lv_iconst (v := 0) hx hb dX4_carryOut_70 (by decide) ?_
    refine lv_iconst (v := 1) hx hb dX4_carryOut_71 (by decide) ?_
    replace hm := ob hm; obtain ⟨u12, e13, hm⟩ := hm
    replace hm := o2 hm; obtain ⟨x16, σ15, e14, hm⟩ := hm
    refine z_calli (z_runV (As := [.int x4, .int x8, .int 0, .int 1]) (rest := []) (ci := 4) rfl rfl C0 lv_X4_85 (b_X4_putRow e14) hW hS e13 rfl hl.1 rfl (Nat.le_of_ble_eq_true rfl) dX4_carryOut_72 rfl rfl ⟨Nat.le_of_ble_eq_true rfl, Nat.le_of_ble_eq_true rfl⟩ ⟨Nat.le_refl _, Nat.le_refl _⟩) hS (fun H locs hW hS => ?_)
    obtain ⟨hq8, hq9⟩ := Prod.mk.inj (Option.some.inj hm); subst hq8; subst hq9
    exact r_iret C0 hr hlocks hW hS dX4_carryOut_75
  · rw [if_neg h11] at hm
    by_cases h17 : x9 = 107
    · rw [if_pos h17] at hm
      refine z_top (congrArg some h17) ?_
      refine lv_lookup (tgt := 60) hx hb dX4_carryOut_16 (by decide) rfl (by decide) ?_
      refine lv_aload_n hx hb dX4_carryOut_60 rfl (lv_at hl 2 rfl) ?_
      refine lv_iload_n hx hb dX4_carryOut_61 rfl (lv_at hl 1 rfl) ?_
      refine lv_iload_n hx hb dX4_carryOut_62 rfl (lv_at hl 0 rfl) ?_
      replace hm := ob hm; obtain ⟨u18, e19, hm⟩ := hm
      replace hm := o2 hm; obtain ⟨x22, σ21, e20, hm⟩ := hm
      refine z_calli (z_runV (As := [.int x4, .int x8]) (rest := []) (ci := 4) rfl rfl C0 lv_X4_82 (b_X4_makeTable e20) hW hS e19 rfl hl.1 rfl (Nat.le_of_ble_eq_true rfl) dX4_carryOut_63 rfl rfl ⟨Nat.le_of_ble_eq_true rfl, Nat.le_of_ble_eq_true rfl⟩ ⟨Nat.le_refl _, Nat.le_refl _⟩) hS (fun H locs hW hS => ?_)
      obtain ⟨hq8, hq9⟩ := Prod.mk.inj (Option.some.inj hm); subst hq8; subst hq9
      exact r_iret C0 hr hlocks hW hS dX4_carryOut_66
    · rw [if_neg h17] at hm
      by_cases h23 : x9 = 109
      · rw [if_pos h23] at hm
        refine z_top (congrArg some h23) ?_
        refine lv_lookup (tgt := 93) hx hb dX4_carryOut_16 (by decide) rfl (by decide) ?_
        refine lv_aload_n hx hb dX4_carryOut_93 rfl (lv_at hl 2 rfl) ?_
        refine lv_iload_n hx hb dX4_carryOut_94 rfl (lv_at hl 1 rfl) ?_
        refine lv_iload_n hx hb dX4_carryOut_95 rfl (lv_at hl 0 rfl) ?_
        replace hm := ob hm; obtain ⟨u24, e25, hm⟩ := hm
        replace hm := o2 hm; obtain ⟨x28, σ27, e26, hm⟩ := hm
        refine z_calli (z_runV (As := [.int x4, .int x8]) (rest := []) (ci := 4) rfl rfl C0 lv_X4_88 (b_X4_unite e26) hW hS e25 rfl hl.1 rfl (Nat.le_of_ble_eq_true rfl) dX4_carryOut_96 rfl rfl ⟨Nat.le_of_ble_eq_true rfl, Nat.le_of_ble_eq_true rfl⟩ ⟨Nat.le_refl _, Nat.le_refl _⟩) hS (fun H locs hW hS => ?_)
        obtain ⟨hq8, hq9⟩ := Prod.mk.inj (Option.some.inj hm); subst hq8; subst hq9
        exact r_iret C0 hr hlocks hW hS dX4_carryOut_99
      · rw [if_neg h23] at hm
        by_cases h29 : x9 = 115
        · rw [if_pos h29] at hm
          refine z_top (congrArg some h29) ?_
          refine lv_lookup (tgt := 76) hx hb dX4_carryOut_16 (by decide) rfl (by decide) ?_
          refine lv_aload_n hx hb dX4_carryOut_76 rfl (lv_at hl 2 rfl) ?_
          refine lv_iload_n hx hb dX4_carryOut_77 rfl (lv_at hl 1 rfl) ?_
          refine lv_iload_n hx hb dX4_carryOut_78 rfl (lv_at hl 0 rfl) ?_
          refine lv_aload_n hx hb dX4_carryOut_79 rfl (lv_at hl 3 rfl) ?_
          refine lv_iconst (v := 2) hx hb dX4_carryOut_80 (by decide) ?_
          replace hm := ob hm; obtain ⟨u30, e31, hm⟩ := hm
          replace hm := ob hm; obtain ⟨x33, e32, hm⟩ := hm
          refine z_calli (z_runV (As := [.int 2]) (rest := [.int x8, .int x4, .ref v0]) (ci := 0) rfl rfl C0 lv_X4_43 (b_X0_numberAt e32) hW hS e31 rfl hl.1 rfl (Nat.le_of_ble_eq_true rfl) dX4_carryOut_81 rfl rfl ⟨Nat.le_of_ble_eq_true rfl, Nat.le_of_ble_eq_true rfl⟩ ⟨Nat.le_refl _, Nat.le_refl _⟩) hS (fun H locs hW hS => ?_)
          refine lv_aload_n hx hb dX4_carryOut_84 rfl (lv_at hl 3 rfl) ?_
          refine lv_iconst (v := 3) hx hb dX4_carryOut_85 (by decide) ?_
          replace hm := ob hm; obtain ⟨u34, e35, hm⟩ := hm
          replace hm := ob hm; obtain ⟨x37, e36, hm⟩ := hm
          refine z_calli (z_runV (As := [.int 3]) (rest := [.int x33, .int x8, .int x4, .ref v0]) (ci := 0) rfl rfl C0 lv_X4_43 (b_X0_numberAt e36) hW hS e35 rfl hl.1 rfl (Nat.le_of_ble_eq_true rfl) dX4_carryOut_86 rfl rfl ⟨Nat.le_of_ble_eq_true rfl, Nat.le_of_ble_eq_true rfl⟩ ⟨Nat.le_refl _, Nat.le_refl _⟩) hS (fun H locs hW hS => ?_)
          replace hm := ob hm; obtain ⟨u38, e39, hm⟩ := hm
          replace hm := o2 hm; obtain ⟨x42, σ41, e40, hm⟩ := hm
          refine z_calli (z_runV (As := [.int x4, .int x8, .int x33, .int x37]) (rest := []) (ci := 4) rfl rfl C0 lv_X4_85 (b_X4_putRow e40) hW hS e39 rfl hl.1 rfl (Nat.le_of_ble_eq_true rfl) dX4_carryOut_89 rfl rfl ⟨Nat.le_of_ble_eq_true rfl, Nat.le_of_ble_eq_true rfl⟩ ⟨Nat.le_refl _, Nat.le_refl _⟩) hS (fun H locs hW hS => ?_)
          obtain ⟨hq8, hq9⟩ := Prod.mk.inj (Option.some.inj hm); subst hq8; subst hq9
          exact r_iret C0 hr hlocks hW hS dX4_carryOut_92
        · rw [if_neg h29] at hm
          refine lv_lookup (tgt := 100) (off := 84) hx hb dX4_carryOut_16 (by decide) (show Op.lookupswitch.offset [(97, 51), (107, 44), (109, 77), (115, 60)] 84 _ = 84 from (lv_osw h11 (by decide)).trans ((lv_osw h17 (by decide)).trans ((lv_osw h23 (by decide)).trans ((lv_osw h29 (by decide)).trans (rfl))))) (by decide) ?_
          refine lv_aload_n hx hb dX4_carryOut_100 rfl (lv_at hl 2 rfl) ?_
          refine lv_iload_n hx hb dX4_carryOut_101 rfl (lv_at hl 1 rfl) ?_
          replace hm := ob hm; obtain ⟨u43, e44, hm⟩ := hm
          replace hm := o2 hm; obtain ⟨x47, σ46, e45, hm⟩ := hm
          refine z_calli (z_runV (As := [.int x4]) (rest := []) (ci := 4) rfl rfl C0 lv_X4_91 (b_X4_empty e45) hW hS e44 rfl hl.1 rfl (Nat.le_of_ble_eq_true rfl) dX4_carryOut_102 rfl rfl ⟨Nat.le_of_ble_eq_true rfl, Nat.le_of_ble_eq_true rfl⟩ ⟨Nat.le_refl _, Nat.le_refl _⟩) hS (fun H locs hW hS => ?_)
          obtain ⟨hq8, hq9⟩ := Prod.mk.inj (Option.some.inj hm); subst hq8; subst hq9
          exact r_iret C0 hr hlocks hW hS dX4_carryOut_105
set_option maxHeartbeats 4000000 in
set_option maxRecDepth 100000 in
theorem b_X5_error {l : Launch} {D : va_G} {ca : Nat → ClassId} {A : Nat → Prop} {N : Nat} {σ : zS} {v0 : Nat} {r0 : Int32} (hm : m_X5_error N σ v0 = some r0) : Met l yX5_error (.code yX5_error cX5_error 1 (some .int) :: wsL_law) ({ frames := 3, cells := 0, slots := 0, locals := 66 } : Room) (va_Pc [.ref v0] (zP D ca A σ)) (zQi r0 D ca A σ) 0 0 A := by
  refine zMk (by decide +kernel) (Nat.le_of_ble_eq_true rfl) ?_
  intro p e s m below meth c C0 hr hlocks hin hW ls hl
  have hx := C0.1
  have hb := C0.2.1
  have hS : va_S A s.heap s.heap [] := va_S.rf
  have hl : lv_has ls 1 [(0, .ref v0)] := hl
  unfold m_X5_error at hm
  refine lv_aload_n hx hb dX5_error_0 rfl (lv_at hl 0 rfl) ?_
  replace hm := ob hm; obtain ⟨a1, e2, hm⟩ := hm
  refine r_getA C0 hW fl_X5_12 e2 dX5_error_1 ?_
  replace hm := ob hm; obtain ⟨u3, e4, hm⟩ := hm
  replace hm := ob hm; obtain ⟨x6, e5, hm⟩ := hm
  refine z_calli (z_runV (As := []) (rest := []) (ci := 3) rfl rfl C0 lv_X5_77 (b_X3_told e5) hW hS e4 rfl hl.1 rfl (Nat.le_of_ble_eq_true rfl) dX5_error_4 rfl rfl ⟨Nat.le_of_ble_eq_true rfl, Nat.le_of_ble_eq_true rfl⟩ ⟨Nat.le_refl _, Nat.le_refl _⟩) hS (fun H locs hW hS => ?_)
  refine lv_aload_n hx hb dX5_error_7 rfl (lv_at hl 0 rfl) ?_
  replace hm := ob hm; obtain ⟨x7, e8, hm⟩ := hm
  refine r_getI C0 hW fl_X5_32 e8 dX5_error_8 ?_
  refine lv_isub hx hb dX5_error_11 ?_
  cases hm
  exact r_iret C0 hr hlocks hW hS dX5_error_12
set_option maxHeartbeats 4000000 in
set_option maxRecDepth 100000 in
theorem b_X4_errorSize {l : Launch} {D : va_G} {ca : Nat → ClassId} {A : Nat → Prop} {N : Nat} {σ : zS} {v0 : Nat} {v1 : Int32} {r0 : Int32} (hm : m_X4_errorSize N σ v0 v1 = some r0) : Met l yX4_errorSize (.code yX4_errorSize cX4_errorSize 3 (some .int) :: wsL_law) ({ frames := 4, cells := 0, slots := 0, locals := 86 } : Room) (va_Pc [.ref v0, .int v1] (zP D ca A σ)) (zQi r0 D ca A σ) 0 0 A := by
  refine zMk (by decide +kernel) (Nat.le_of_ble_eq_true rfl) ?_
  intro p e s m below meth c C0 hr hlocks hin hW ls hl
  have hx := C0.1
  have hb := C0.2.1
  have hS : va_S A s.heap s.heap [] := va_S.rf
  have hl : lv_has ls 3 [(0, .ref v0), (1, .int v1)] := hl
  unfold m_X4_errorSize at hm
  refine lv_aload_n hx hb dX4_errorSize_0 rfl (lv_at hl 0 rfl) ?_
  refine lv_iload_n hx hb dX4_errorSize_1 rfl (lv_at hl 1 rfl) ?_
  replace hm := ob hm; obtain ⟨u1, e2, hm⟩ := hm
  replace hm := ob hm; obtain ⟨r4, e3, hm⟩ := hm
  refine z_callq (z_runV (As := [.int v1]) (rest := []) (ci := 4) rfl rfl C0 lv_X4_36 (b_X4_find e3) hW hS e2 rfl hl.1 rfl (Nat.le_of_ble_eq_true rfl) dX4_errorSize_2 rfl rfl ⟨Nat.le_of_ble_eq_true rfl, Nat.le_of_ble_eq_true rfl⟩ ⟨Nat.le_refl _, Nat.le_refl _⟩) hS (fun H locs hW hS => ?_)
  replace hm := oe hm; rcases hm with ⟨hn, hm⟩ | ⟨a5, hn, hm⟩
  · subst hn
    refine lv_astore_nN (lv' := [(2, .null), (0, .ref v0), (1, .int v1)]) hx hb dX4_errorSize_5 rfl hl (by decide) rfl (fun ls hl => ?_)
    refine lv_aload_nN hx hb dX4_errorSize_6 rfl (lv_at hl 0 rfl) ?_
    refine lv_ifnonnullN hx hb dX4_errorSize_7 ?_
    refine lv_iconst (v := 0) hx hb dX4_errorSize_10 (by decide) ?_
    refine lv_goto (tgt := 21) hx hb dX4_errorSize_11 (by decide) ?_
    cases hm
    exact r_iret C0 hr hlocks hW hS dX4_errorSize_21
  · subst hn
    refine lv_astore_n (lv' := [(2, .ref a5), (0, .ref v0), (1, .int v1)]) hx hb dX4_errorSize_5 rfl hl (by decide) rfl (fun ls hl => ?_)
    refine lv_aload_n hx hb dX4_errorSize_6 rfl (lv_at hl 0 rfl) ?_
    refine lv_ifnonnull (tgt := 14) hx hb dX4_errorSize_7 (by decide) ?_
    refine lv_aload_n hx hb dX4_errorSize_14 rfl (lv_at hl 0 rfl) ?_
    replace hm := ob hm; obtain ⟨u6, e7, hm⟩ := hm
    replace hm := ob hm; obtain ⟨x9, e8, hm⟩ := hm
    refine z_calli (z_runV (As := []) (rest := []) (ci := 5) rfl rfl C0 lv_X4_136 (b_X5_error e8) hW hS e7 rfl hl.1 rfl (Nat.le_of_ble_eq_true rfl) dX4_errorSize_15 rfl rfl ⟨Nat.le_of_ble_eq_true rfl, Nat.le_of_ble_eq_true rfl⟩ ⟨Nat.le_refl _, Nat.le_refl _⟩) hS (fun H locs hW hS => ?_)
    refine r_abs C0 lb_X4_142 hl.1 (Nat.le_of_ble_eq_true rfl) (Nat.le_of_ble_eq_true rfl) ⟨Nat.le_refl _, Nat.le_refl _⟩ dX4_errorSize_18 ?_
    cases hm
    exact r_iret C0 hr hlocks hW hS dX4_errorSize_21
set_option maxHeartbeats 4000000 in
set_option maxRecDepth 100000 in
theorem w_X4_placeByError_L11 {p : Program} {l : Launch} {e : Env} {s : State} {m : MethodId} {args : Array Value} {below : List Frame} {meth : Method} {c : Code} {D : va_G} {ca : Nat → ClassId} {A : Nat → Prop} {Q : State → Prop} (N : Nat) : ∀ (n : Nat) {σ : zS} {v0 : Nat} {v1 : Int32} {v2 : Int32} {v3 : Int32} {v4 : Int32} {y3 : Int32} {H : Heap} {locs : List Loc} {ls : Array Slot}, m_X4_placeByError_L11 N n σ v0 v1 v2 v3 v4 = some y3 → zC p s m args c RX4 cX4_placeByError 6 D ca A → zW D ca A σ H → va_S A s.heap H locs → lv_has ls 6 [(0, .ref v0), (1, .int v1), (2, .int v2), (3, .int v3), (4, .int v4)] → (∀ (H : Heap) (locs : List Loc) (ls : Array Slot), zW D ca A σ H → va_S A s.heap H locs → lv_has ls 6 [(3, .int y3)] → W p l e ({ frames := 5, cells := 0, slots := 0, locals := 108 } : Room) s m args below meth c H locs 0 0 Q (F0 m 55 ls [])) → W p l e ({ frames := 5, cells := 0, slots := 0, locals := 108 } : Room) s m args below meth c H locs 0 0 Q (F0 m 11 ls []) := by
  intro n
  induction n with
  | zero =>
    intro σ v0 v1 v2 v3 v4 y3 H locs ls hm C0 hW hS hl kk
    rw [m_X4_placeByError_L11] at hm
    cases hm
  | succ n ih =>
    intro σ v0 v1 v2 v3 v4 y3 H locs ls hm C0 hW hS hl kk
    rw [m_X4_placeByError_L11] at hm
    have hx := C0.1
    have hb := C0.2.1
    refine lv_iload hx hb dX4_placeByError_11 (lv_at hl 4 rfl) ?_
    refine lv_aload_n hx hb dX4_placeByError_13 rfl (lv_at hl 0 rfl) ?_
    replace hm := ob hm; obtain ⟨x5, e6, hm⟩ := hm
    refine r_getI C0 hW fl_X4_25 e6 dX4_placeByError_14 ?_
    refine lv_icmp_ge (tgt := 55) hx hb dX4_placeByError_17 (by decide) (fun h7 => ?_) (fun h7 => ?_)
    · rw [if_pos h7] at hm
      cases hm
      exact kk _ _ _ hW hS (lv_sub hl [3] rfl)
    · rw [if_neg h7] at hm
      refine lv_aload_n hx hb dX4_placeByError_20 rfl (lv_at hl 0 rfl) ?_
      refine lv_iload hx hb dX4_placeByError_21 (lv_at hl 4 rfl) ?_
      replace hm := ob hm; obtain ⟨u8, e9, hm⟩ := hm
      replace hm := ob hm; obtain ⟨x11, e10, hm⟩ := hm
      refine z_calli (z_runV (As := [.int v4]) (rest := []) (ci := 4) rfl rfl C0 lv_X4_139 (b_X4_errorSize e10) hW hS e9 rfl hl.1 rfl (Nat.le_of_ble_eq_true rfl) dX4_placeByError_23 rfl rfl ⟨Nat.le_of_ble_eq_true rfl, Nat.le_of_ble_eq_true rfl⟩ ⟨Nat.le_refl _, Nat.le_refl _⟩) hS (fun H locs hW hS => ?_)
      refine lv_istore (lv' := [(5, .int x11), (0, .ref v0), (1, .int v1), (2, .int v2), (3, .int v3), (4, .int v4)]) hx hb dX4_placeByError_26 hl (by decide) rfl (fun ls hl => ?_)
      refine lv_iload hx hb dX4_placeByError_28 (lv_at hl 0 rfl) ?_
      refine lv_iload_n hx hb dX4_placeByError_30 rfl (lv_at hl 3 rfl) ?_
      replace hm := ob hm; obtain ⟨y20, e23, hm⟩ := hm
      have J49_12 : ∀ (H : Heap) (locs : List Loc) (ls : Array Slot), zW D ca A σ H → va_S A s.heap H locs → lv_has ls 6 [(0, .ref v0), (1, .int v1), (2, .int v2), (4, .int v4), (3, .int y20)] → W p l e ({ frames := 5, cells := 0, slots := 0, locals := 108 } : Room) s m args below meth c H locs 0 0 Q (F0 m 49 ls []) := by
        intro H locs ls hW hS hl
        replace hm := ob hm; obtain ⟨x21, e22, hm⟩ := hm
        refine lv_iinc (v := x21) (lv' := [(4, .int x21), (0, .ref v0), (1, .int v1), (2, .int v2), (3, .int y20)]) hx hb dX4_placeByError_49 hl (k := 3) rfl (Option.some.inj e22) (by decide) rfl (fun ls hl => ?_)
        refine lv_goto (tgt := 11) hx hb dX4_placeByError_52 (by decide) ?_
        exact ih hm C0 hW hS (lv_sub hl [1, 2, 3, 4, 0] rfl) kk
      clear hm
      have hm := e23
      clear e23
      refine lv_icmp_gt (tgt := 46) hx hb dX4_placeByError_31 (by decide) (fun h12 => ?_) (fun h12 => ?_)
      · rw [if_pos h12] at hm
        replace hm := ob hm; obtain ⟨x14, e15, hm⟩ := hm
        refine lv_iinc (v := x14) (lv' := [(3, .int x14), (5, .int x11), (0, .ref v0), (1, .int v1), (2, .int v2), (4, .int v4)]) hx hb dX4_placeByError_46 hl (k := 4) rfl (Option.some.inj e15) (by decide) rfl (fun ls hl => ?_)
        have hq1 := Option.some.inj hm; subst hq1
        exact J49_12 _ _ _ hW hS (lv_sub hl [2, 3, 4, 5, 0] rfl)
      · rw [if_neg h12] at hm
        refine lv_iload hx hb dX4_placeByError_34 (lv_at hl 0 rfl) ?_
        refine lv_iload_n hx hb dX4_placeByError_36 rfl (lv_at hl 3 rfl) ?_
        refine lv_icmp_ne (tgt := 49) hx hb dX4_placeByError_37 (by decide) (fun h16 => ?_) (fun h16 => ?_)
        · rw [if_neg h16] at hm
          have hq1 := Option.some.inj hm; subst hq1
          exact J49_12 _ _ _ hW hS (lv_sub hl [1, 2, 3, 5, 4] rfl)
        · rw [if_pos h16] at hm
          refine lv_iload hx hb dX4_placeByError_40 (lv_at hl 5 rfl) ?_
          refine lv_iload_n hx hb dX4_placeByError_42 rfl (lv_at hl 2 rfl) ?_
          refine lv_icmp_ge (tgt := 49) hx hb dX4_placeByError_43 (by decide) (fun h17 => ?_) (fun h17 => ?_)
          · rw [if_pos h17] at hm
            have hq1 := Option.some.inj hm; subst hq1
            exact J49_12 _ _ _ hW hS (lv_sub hl [1, 2, 3, 5, 4] rfl)
          · rw [if_neg h17] at hm
            replace hm := ob hm; obtain ⟨x18, e19, hm⟩ := hm
            refine lv_iinc (v := x18) (lv' := [(3, .int x18), (5, .int x11), (0, .ref v0), (1, .int v1), (2, .int v2), (4, .int v4)]) hx hb dX4_placeByError_46 hl (k := 4) rfl (Option.some.inj e19) (by decide) rfl (fun ls hl => ?_)
            have hq1 := Option.some.inj hm; subst hq1
            exact J49_12 _ _ _ hW hS (lv_sub hl [2, 3, 4, 5, 0] rfl)
set_option maxHeartbeats 4000000 in
set_option maxRecDepth 100000 in
theorem b_X4_placeByError {l : Launch} {D : va_G} {ca : Nat → ClassId} {A : Nat → Prop} {N : Nat} {σ : zS} {v0 : Nat} {v1 : Int32} {r0 : Int32} (hm : m_X4_placeByError N σ v0 v1 = some r0) : Met l yX4_placeByError (.code yX4_placeByError cX4_placeByError 6 (some .int) :: wsL_law) ({ frames := 5, cells := 0, slots := 0, locals := 108 } : Room) (va_Pc [.ref v0, .int v1] (zP D ca A σ)) (zQi r0 D ca A σ) 0 0 A := by
  refine zMk (by decide +kernel) (Nat.le_of_ble_eq_true rfl) ?_
  intro p e s m below meth c C0 hr hlocks hin hW ls hl
  have hx := C0.1
  have hb := C0.2.1
  have hS : va_S A s.heap s.heap [] := va_S.rf
  have hl : lv_has ls 6 [(0, .ref v0), (1, .int v1)] := hl
  unfold m_X4_placeByError at hm
  refine lv_aload_n hx hb dX4_placeByError_0 rfl (lv_at hl 0 rfl) ?_
  refine lv_iload_n hx hb dX4_placeByError_1 rfl (lv_at hl 1 rfl) ?_
  replace hm := ob hm; obtain ⟨u1, e2, hm⟩ := hm
  replace hm := ob hm; obtain ⟨x4, e3, hm⟩ := hm
  refine z_calli (z_runV (As := [.int v1]) (rest := []) (ci := 4) rfl rfl C0 lv_X4_139 (b_X4_errorSize e3) hW hS e2 rfl hl.1 rfl (Nat.le_of_ble_eq_true rfl) dX4_placeByError_2 rfl rfl ⟨Nat.le_of_ble_eq_true rfl, Nat.le_of_ble_eq_true rfl⟩ ⟨Nat.le_refl _, Nat.le_refl _⟩) hS (fun H locs hW hS => ?_)
  refine lv_istore_n (lv' := [(2, .int x4), (0, .ref v0), (1, .int v1)]) hx hb dX4_placeByError_5 rfl hl (by decide) rfl (fun ls hl => ?_)
  refine lv_iconst (v := 0) hx hb dX4_placeByError_6 (by decide) ?_
  refine lv_istore_n (lv' := [(3, .int 0), (2, .int x4), (0, .ref v0), (1, .int v1)]) hx hb dX4_placeByError_7 rfl hl (by decide) rfl (fun ls hl => ?_)
  refine lv_iconst (v := 0) hx hb dX4_placeByError_8 (by decide) ?_
  refine lv_istore (lv' := [(4, .int 0), (3, .int 0), (2, .int x4), (0, .ref v0), (1, .int v1)]) hx hb dX4_placeByError_9 hl (by decide) rfl (fun ls hl => ?_)
  replace hm := ob hm; obtain ⟨y24, e25, hm⟩ := hm
  refine w_X4_placeByError_L11 N N e25 C0 hW hS (lv_sub hl [3, 4, 2, 1, 0] rfl) (fun H locs ls hW hS hl => ?_)
  refine lv_iload_n hx hb dX4_placeByError_55 rfl (lv_at hl 0 rfl) ?_
  cases hm
  exact r_iret C0 hr hlocks hW hS dX4_placeByError_56
set_option maxHeartbeats 4000000 in
set_option maxRecDepth 100000 in
theorem b_X8_within {l : Launch} {D : va_G} {ca : Nat → ClassId} {A : Nat → Prop} {N : Nat} {σ : zS} {v0 : Int32} {v1 : Int32} {r0 : Int32} (hm : m_X8_within N σ v0 v1 = some r0) : Met l yX8_within (.code yX8_within cX8_within 2 (some .boolean) :: wsL_law) ({ frames := 0, cells := 0, slots := 0, locals := 0 } : Room) (va_Pc [.int v0, .int v1] (zP D ca A σ)) (zQi r0 D ca A σ) 0 0 A := by
  refine zMk (by decide +kernel) (Nat.le_of_ble_eq_true rfl) ?_
  intro p e s m below meth c C0 hr hlocks hin hW ls hl
  have hx := C0.1
  have hb := C0.2.1
  have hS : va_S A s.heap s.heap [] := va_S.rf
  have hl : lv_has ls 2 [(0, .int v0), (1, .int v1)] := hl
  unfold m_X8_within at hm
  refine lv_iload_n hx hb dX8_within_0 rfl (lv_at hl 0 rfl) ?_
  refine lv_if_lt (tgt := 13) hx hb dX8_within_1 (by decide) (fun h1 => ?_) (fun h1 => ?_)
  · rw [if_pos h1] at hm
    refine lv_iconst (v := 0) hx hb dX8_within_13 (by decide) ?_
    cases hm
    exact r_zret C0 hr rfl hlocks hW hS dX8_within_14
  · rw [if_neg h1] at hm
    refine lv_iload_n hx hb dX8_within_4 rfl (lv_at hl 0 rfl) ?_
    refine lv_iload_n hx hb dX8_within_5 rfl (lv_at hl 1 rfl) ?_
    refine lv_icmp_gt (tgt := 13) hx hb dX8_within_6 (by decide) (fun h2 => ?_) (fun h2 => ?_)
    · rw [if_pos h2] at hm
      refine lv_iconst (v := 0) hx hb dX8_within_13 (by decide) ?_
      cases hm
      exact r_zret C0 hr rfl hlocks hW hS dX8_within_14
    · rw [if_neg h2] at hm
      refine lv_iconst (v := 1) hx hb dX8_within_9 (by decide) ?_
      refine lv_goto (tgt := 14) hx hb dX8_within_10 (by decide) ?_
      cases hm
      exact r_zret C0 hr rfl hlocks hW hS dX8_within_14
set_option maxHeartbeats 4000000 in
set_option maxRecDepth 100000 in
theorem b_X4_refusalOfTable {l : Launch} {D : va_G} {ca : Nat → ClassId} {A : Nat → Prop} {N : Nat} {σ : zS} {v0 : Nat} {v1 : Int32} {v2 : Int32} {r0 : Int32} (hm : m_X4_refusalOfTable N σ v0 v1 v2 = some r0) : Met l yX4_refusalOfTable (.code yX4_refusalOfTable cX4_refusalOfTable 3 (some .int) :: wsL_law) ({ frames := 1, cells := 0, slots := 0, locals := 21 } : Room) (va_Pc [.ref v0, .int v1, .int v2] (zP D ca A σ)) (zQi r0 D ca A σ) 0 0 A := by
  refine zMk (by decide +kernel) (Nat.le_of_ble_eq_true rfl) ?_
  intro p e s m below meth c C0 hr hlocks hin hW ls hl
  have hx := C0.1
  have hb := C0.2.1
  have hS : va_S A s.heap s.heap [] := va_S.rf
  have hl : lv_has ls 3 [(0, .ref v0), (1, .int v1), (2, .int v2)] := hl
  unfold m_X4_refusalOfTable at hm
  refine lv_iload_n hx hb dX4_refusalOfTable_0 rfl (lv_at hl 1 rfl) ?_
  refine lv_iconst (v := 2) hx hb dX4_refusalOfTable_1 (by decide) ?_
  replace hm := ob hm; obtain ⟨x2, e1, hm⟩ := hm
  refine z_calli (z_runN (As := [.int v1, .int 2]) (rest := []) C0 ln_X4_64 (b_X8_within e1) hW hS rfl hl.1 rfl (Nat.le_of_ble_eq_true rfl) dX4_refusalOfTable_2 rfl rfl ⟨Nat.le_of_ble_eq_true rfl, Nat.le_of_ble_eq_true rfl⟩ ⟨Nat.le_refl _, Nat.le_refl _⟩) hS (fun H locs hW hS => ?_)
  refine lv_if_eq (tgt := 17) hx hb dX4_refusalOfTable_5 (by decide) (fun h3 => ?_) (fun h3 => ?_)
  · rw [if_pos h3] at hm
    refine lv_iconst (v := (-1)) hx hb dX4_refusalOfTable_17 (by decide) ?_
    cases hm
    exact r_iret C0 hr hlocks hW hS dX4_refusalOfTable_18
  · rw [if_neg h3] at hm
    refine lv_iload_n hx hb dX4_refusalOfTable_8 rfl (lv_at hl 2 rfl) ?_
    refine lv_bipush (v := 9) hx hb dX4_refusalOfTable_9 (by decide) ?_
    replace hm := ob hm; obtain ⟨x5, e4, hm⟩ := hm
    refine z_calli (z_runN (As := [.int v2, .int 9]) (rest := []) C0 ln_X4_64 (b_X8_within e4) hW hS rfl hl.1 rfl (Nat.le_of_ble_eq_true rfl) dX4_refusalOfTable_11 rfl rfl ⟨Nat.le_of_ble_eq_true rfl, Nat.le_of_ble_eq_true rfl⟩ ⟨Nat.le_refl _, Nat.le_refl _⟩) hS (fun H locs hW hS => ?_)
    refine lv_if_ne (tgt := 19) hx hb dX4_refusalOfTable_14 (by decide) (fun h6 => ?_) (fun h6 => ?_)
    · rw [if_neg h6] at hm
      refine lv_aload_n hx hb dX4_refusalOfTable_19 rfl (lv_at hl 0 rfl) ?_
      replace hm := ob hm; obtain ⟨x7, e8, hm⟩ := hm
      refine r_getI C0 hW fl_X4_25 e8 dX4_refusalOfTable_20 ?_
      refine lv_bipush (v := 6) hx hb dX4_refusalOfTable_23 (by decide) ?_
      refine lv_icmp_lt (tgt := 33) hx hb dX4_refusalOfTable_25 (by decide) (fun h9 => ?_) (fun h9 => ?_)
      · rw [if_pos h9] at hm
        refine lv_iconst (v := 0) hx hb dX4_refusalOfTable_33 (by decide) ?_
        cases hm
        exact r_iret C0 hr hlocks hW hS dX4_refusalOfTable_34
      · rw [if_neg h9] at hm
        refine lv_bipush (v := (-3)) hx hb dX4_refusalOfTable_28 (by decide) ?_
        refine lv_goto (tgt := 34) hx hb dX4_refusalOfTable_30 (by decide) ?_
        cases hm
        exact r_iret C0 hr hlocks hW hS dX4_refusalOfTable_34
    · rw [if_pos h6] at hm
      refine lv_iconst (v := (-1)) hx hb dX4_refusalOfTable_17 (by decide) ?_
      cases hm
      exact r_iret C0 hr hlocks hW hS dX4_refusalOfTable_18
set_option maxHeartbeats 4000000 in
set_option maxRecDepth 100000 in
theorem b_X4_refusalOfRow {l : Launch} {D : va_G} {ca : Nat → ClassId} {A : Nat → Prop} {N : Nat} {σ : zS} {v0 : Nat} {v1 : Int32} {v2 : Int32} {v3 : Int32} {v4 : Int32} {r0 : Int32} (hm : m_X4_refusalOfRow N σ v0 v1 v2 v3 v4 = some r0) : Met l yX4_refusalOfRow (.code yX4_refusalOfRow cX4_refusalOfRow 5 (some .int) :: wsL_law) ({ frames := 1, cells := 0, slots := 0, locals := 21 } : Room) (va_Pc [.ref v0, .int v1, .int v2, .int v3, .int v4] (zP D ca A σ)) (zQi r0 D ca A σ) 0 0 A := by
  refine zMk (by decide +kernel) (Nat.le_of_ble_eq_true rfl) ?_
  intro p e s m below meth c C0 hr hlocks hin hW ls hl
  have hx := C0.1
  have hb := C0.2.1
  have hS : va_S A s.heap s.heap [] := va_S.rf
  have hl : lv_has ls 5 [(0, .ref v0), (1, .int v1), (2, .int v2), (3, .int v3), (4, .int v4)] := hl
  unfold m_X4_refusalOfRow at hm
  refine lv_aload_n hx hb dX4_refusalOfRow_0 rfl (lv_at hl 0 rfl) ?_
  refine lv_iload_n hx hb dX4_refusalOfRow_1 rfl (lv_at hl 1 rfl) ?_
  replace hm := ob hm; obtain ⟨u1, e2, hm⟩ := hm
  replace hm := ob hm; obtain ⟨r4, e3, hm⟩ := hm
  refine z_callq (z_runV (As := [.int v1]) (rest := []) (ci := 4) rfl rfl C0 lv_X4_36 (b_X4_find e3) hW hS e2 rfl hl.1 rfl (Nat.le_of_ble_eq_true rfl) dX4_refusalOfRow_2 rfl rfl ⟨Nat.le_of_ble_eq_true rfl, Nat.le_of_ble_eq_true rfl⟩ ⟨Nat.le_refl _, Nat.le_refl _⟩) hS (fun H locs hW hS => ?_)
  replace hm := oe hm; rcases hm with ⟨hn, hm⟩ | ⟨a5, hn, hm⟩
  · subst hn
    refine lv_ifnullN (tgt := 22) hx hb dX4_refusalOfRow_5 (by decide) ?_
    refine lv_iconst (v := (-1)) hx hb dX4_refusalOfRow_22 (by decide) ?_
    cases hm
    exact r_iret C0 hr hlocks hW hS dX4_refusalOfRow_23
  · subst hn
    refine lv_ifnull hx hb dX4_refusalOfRow_5 ?_
    refine lv_iload_n hx hb dX4_refusalOfRow_8 rfl (lv_at hl 2 rfl) ?_
    replace hm := ob hm; obtain ⟨x7, e6, hm⟩ := hm
    refine z_calli (z_runN (As := [.int v2]) (rest := []) C0 ln_X4_68 (b_X8_isThing e6) hW hS rfl hl.1 rfl (Nat.le_of_ble_eq_true rfl) dX4_refusalOfRow_9 rfl rfl ⟨Nat.le_of_ble_eq_true rfl, Nat.le_of_ble_eq_true rfl⟩ ⟨Nat.le_refl _, Nat.le_refl _⟩) hS (fun H locs hW hS => ?_)
    refine lv_if_eq (tgt := 22) hx hb dX4_refusalOfRow_12 (by decide) (fun h8 => ?_) (fun h8 => ?_)
    · rw [if_pos h8] at hm
      refine lv_iconst (v := (-1)) hx hb dX4_refusalOfRow_22 (by decide) ?_
      cases hm
      exact r_iret C0 hr hlocks hW hS dX4_refusalOfRow_23
    · rw [if_neg h8] at hm
      refine lv_iload_n hx hb dX4_refusalOfRow_15 rfl (lv_at hl 3 rfl) ?_
      replace hm := ob hm; obtain ⟨x10, e9, hm⟩ := hm
      refine z_calli (z_runN (As := [.int v3]) (rest := []) C0 ln_X4_68 (b_X8_isThing e9) hW hS rfl hl.1 rfl (Nat.le_of_ble_eq_true rfl) dX4_refusalOfRow_16 rfl rfl ⟨Nat.le_of_ble_eq_true rfl, Nat.le_of_ble_eq_true rfl⟩ ⟨Nat.le_refl _, Nat.le_refl _⟩) hS (fun H locs hW hS => ?_)
      refine lv_if_ne (tgt := 24) hx hb dX4_refusalOfRow_19 (by decide) (fun h11 => ?_) (fun h11 => ?_)
      · rw [if_neg h11] at hm
        refine lv_iload hx hb dX4_refusalOfRow_24 (lv_at hl 4 rfl) ?_
        refine lv_iconst (v := 1) hx hb dX4_refusalOfRow_26 (by decide) ?_
        refine lv_icmp_lt (tgt := 37) hx hb dX4_refusalOfRow_27 (by decide) (fun h12 => ?_) (fun h12 => ?_)
        · rw [if_pos h12] at hm
          refine lv_iconst (v := (-1)) hx hb dX4_refusalOfRow_37 (by decide) ?_
          cases hm
          exact r_iret C0 hr hlocks hW hS dX4_refusalOfRow_38
        · rw [if_neg h12] at hm
          refine lv_iload hx hb dX4_refusalOfRow_30 (lv_at hl 4 rfl) ?_
          refine lv_bipush (v := 100) hx hb dX4_refusalOfRow_32 (by decide) ?_
          refine lv_icmp_le (tgt := 39) hx hb dX4_refusalOfRow_34 (by decide) (fun h13 => ?_) (fun h13 => ?_)
          · rw [if_pos h13] at hm
            refine lv_aload_n hx hb dX4_refusalOfRow_39 rfl (lv_at hl 0 rfl) ?_
            replace hm := ob hm; obtain ⟨x14, e15, hm⟩ := hm
            refine r_getI C0 hW fl_X4_29 e15 dX4_refusalOfRow_40 ?_
            refine lv_iload hx hb dX4_refusalOfRow_43 (lv_at hl 4 rfl) ?_
            refine lv_iadd hx hb dX4_refusalOfRow_45 ?_
            refine lv_sipush (v := 20000) hx hb dX4_refusalOfRow_46 (by decide) ?_
            refine lv_icmp_le (tgt := 57) hx hb dX4_refusalOfRow_49 (by decide) (fun h16 => ?_) (fun h16 => ?_)
            · rw [if_pos h16] at hm
              refine lv_iconst (v := 0) hx hb dX4_refusalOfRow_57 (by decide) ?_
              cases hm
              exact r_iret C0 hr hlocks hW hS dX4_refusalOfRow_58
            · rw [if_neg h16] at hm
              refine lv_bipush (v := (-3)) hx hb dX4_refusalOfRow_52 (by decide) ?_
              refine lv_goto (tgt := 58) hx hb dX4_refusalOfRow_54 (by decide) ?_
              cases hm
              exact r_iret C0 hr hlocks hW hS dX4_refusalOfRow_58
          · rw [if_neg h13] at hm
            refine lv_iconst (v := (-1)) hx hb dX4_refusalOfRow_37 (by decide) ?_
            cases hm
            exact r_iret C0 hr hlocks hW hS dX4_refusalOfRow_38
      · rw [if_pos h11] at hm
        refine lv_iconst (v := (-1)) hx hb dX4_refusalOfRow_22 (by decide) ?_
        cases hm
        exact r_iret C0 hr hlocks hW hS dX4_refusalOfRow_23
set_option maxHeartbeats 4000000 in
set_option maxRecDepth 100000 in
theorem b_X4_refusalOfMerge {l : Launch} {D : va_G} {ca : Nat → ClassId} {A : Nat → Prop} {N : Nat} {σ : zS} {v0 : Nat} {v1 : Int32} {v2 : Int32} {r0 : Int32} (hm : m_X4_refusalOfMerge N σ v0 v1 v2 = some r0) : Met l yX4_refusalOfMerge (.code yX4_refusalOfMerge cX4_refusalOfMerge 5 (some .int) :: wsL_law) ({ frames := 1, cells := 0, slots := 0, locals := 21 } : Room) (va_Pc [.ref v0, .int v1, .int v2] (zP D ca A σ)) (zQi r0 D ca A σ) 0 0 A := by
  refine zMk (by decide +kernel) (Nat.le_of_ble_eq_true rfl) ?_
  intro p e s m below meth c C0 hr hlocks hin hW ls hl
  have hx := C0.1
  have hb := C0.2.1
  have hS : va_S A s.heap s.heap [] := va_S.rf
  have hl : lv_has ls 5 [(0, .ref v0), (1, .int v1), (2, .int v2)] := hl
  unfold m_X4_refusalOfMerge at hm
  refine lv_aload_n hx hb dX4_refusalOfMerge_0 rfl (lv_at hl 0 rfl) ?_
  refine lv_iload_n hx hb dX4_refusalOfMerge_1 rfl (lv_at hl 1 rfl) ?_
  replace hm := ob hm; obtain ⟨u1, e2, hm⟩ := hm
  replace hm := ob hm; obtain ⟨r4, e3, hm⟩ := hm
  refine z_callq (z_runV (As := [.int v1]) (rest := []) (ci := 4) rfl rfl C0 lv_X4_36 (b_X4_find e3) hW hS e2 rfl hl.1 rfl (Nat.le_of_ble_eq_true rfl) dX4_refusalOfMerge_2 rfl rfl ⟨Nat.le_of_ble_eq_true rfl, Nat.le_of_ble_eq_true rfl⟩ ⟨Nat.le_refl _, Nat.le_refl _⟩) hS (fun H locs hW hS => ?_)
  replace hm := oe hm; rcases hm with ⟨hn, hm⟩ | ⟨a5, hn, hm⟩
  · subst hn
    refine lv_astore_nN (lv' := [(3, .null), (0, .ref v0), (1, .int v1), (2, .int v2)]) hx hb dX4_refusalOfMerge_5 rfl hl (by decide) rfl (fun ls hl => ?_)
    refine lv_aload_n hx hb dX4_refusalOfMerge_6 rfl (lv_at hl 1 rfl) ?_
    refine lv_iload_n hx hb dX4_refusalOfMerge_7 rfl (lv_at hl 3 rfl) ?_
    replace hm := ob hm; obtain ⟨u6, e7, hm⟩ := hm
    replace hm := ob hm; obtain ⟨r9, e8, hm⟩ := hm
    refine z_callq (z_runV (As := [.int v2]) (rest := []) (ci := 4) rfl rfl C0 lv_X4_36 (b_X4_find e8) hW hS e7 rfl hl.1 rfl (Nat.le_of_ble_eq_true rfl) dX4_refusalOfMerge_8 rfl rfl ⟨Nat.le_of_ble_eq_true rfl, Nat.le_of_ble_eq_true rfl⟩ ⟨Nat.le_refl _, Nat.le_refl _⟩) hS (fun H locs hW hS => ?_)
    replace hm := oe hm; rcases hm with ⟨hn, hm⟩ | ⟨a10, hn, hm⟩
    · subst hn
      refine lv_astoreN (lv' := [(4, .null), (3, .null), (0, .ref v0), (1, .int v1), (2, .int v2)]) hx hb dX4_refusalOfMerge_11 hl (by decide) rfl (fun ls hl => ?_)
      refine lv_aload_nN hx hb dX4_refusalOfMerge_13 rfl (lv_at hl 1 rfl) ?_
      refine lv_ifnullN (tgt := 27) hx hb dX4_refusalOfMerge_14 (by decide) ?_
      refine lv_iconst (v := (-1)) hx hb dX4_refusalOfMerge_27 (by decide) ?_
      cases hm
      exact r_iret C0 hr hlocks hW hS dX4_refusalOfMerge_28
    · subst hn
      refine lv_astore (lv' := [(4, .ref a10), (3, .null), (0, .ref v0), (1, .int v1), (2, .int v2)]) hx hb dX4_refusalOfMerge_11 hl (by decide) rfl (fun ls hl => ?_)
      refine lv_aload_nN hx hb dX4_refusalOfMerge_13 rfl (lv_at hl 1 rfl) ?_
      refine lv_ifnullN (tgt := 27) hx hb dX4_refusalOfMerge_14 (by decide) ?_
      refine lv_iconst (v := (-1)) hx hb dX4_refusalOfMerge_27 (by decide) ?_
      cases hm
      exact r_iret C0 hr hlocks hW hS dX4_refusalOfMerge_28
  · subst hn
    refine lv_astore_n (lv' := [(3, .ref a5), (0, .ref v0), (1, .int v1), (2, .int v2)]) hx hb dX4_refusalOfMerge_5 rfl hl (by decide) rfl (fun ls hl => ?_)
    refine lv_aload_n hx hb dX4_refusalOfMerge_6 rfl (lv_at hl 1 rfl) ?_
    refine lv_iload_n hx hb dX4_refusalOfMerge_7 rfl (lv_at hl 3 rfl) ?_
    replace hm := ob hm; obtain ⟨u11, e12, hm⟩ := hm
    replace hm := ob hm; obtain ⟨r14, e13, hm⟩ := hm
    refine z_callq (z_runV (As := [.int v2]) (rest := []) (ci := 4) rfl rfl C0 lv_X4_36 (b_X4_find e13) hW hS e12 rfl hl.1 rfl (Nat.le_of_ble_eq_true rfl) dX4_refusalOfMerge_8 rfl rfl ⟨Nat.le_of_ble_eq_true rfl, Nat.le_of_ble_eq_true rfl⟩ ⟨Nat.le_refl _, Nat.le_refl _⟩) hS (fun H locs hW hS => ?_)
    replace hm := oe hm; rcases hm with ⟨hn, hm⟩ | ⟨a15, hn, hm⟩
    · subst hn
      refine lv_astoreN (lv' := [(4, .null), (3, .ref a5), (0, .ref v0), (1, .int v1), (2, .int v2)]) hx hb dX4_refusalOfMerge_11 hl (by decide) rfl (fun ls hl => ?_)
      refine lv_aload_n hx hb dX4_refusalOfMerge_13 rfl (lv_at hl 1 rfl) ?_
      refine lv_ifnull hx hb dX4_refusalOfMerge_14 ?_
      refine lv_aloadN hx hb dX4_refusalOfMerge_17 (lv_at hl 0 rfl) ?_
      refine lv_ifnullN (tgt := 27) hx hb dX4_refusalOfMerge_19 (by decide) ?_
      refine lv_iconst (v := (-1)) hx hb dX4_refusalOfMerge_27 (by decide) ?_
      cases hm
      exact r_iret C0 hr hlocks hW hS dX4_refusalOfMerge_28
    · subst hn
      refine lv_astore (lv' := [(4, .ref a15), (3, .ref a5), (0, .ref v0), (1, .int v1), (2, .int v2)]) hx hb dX4_refusalOfMerge_11 hl (by decide) rfl (fun ls hl => ?_)
      refine lv_aload_n hx hb dX4_refusalOfMerge_13 rfl (lv_at hl 1 rfl) ?_
      refine lv_ifnull hx hb dX4_refusalOfMerge_14 ?_
      refine lv_aload hx hb dX4_refusalOfMerge_17 (lv_at hl 0 rfl) ?_
      refine lv_ifnull hx hb dX4_refusalOfMerge_19 ?_
      refine lv_iload_n hx hb dX4_refusalOfMerge_22 rfl (lv_at hl 3 rfl) ?_
      refine lv_iload_n hx hb dX4_refusalOfMerge_23 rfl (lv_at hl 4 rfl) ?_
      refine lv_icmp_ne (tgt := 29) hx hb dX4_refusalOfMerge_24 (by decide) (fun h16 => ?_) (fun h16 => ?_)
      · rw [if_neg h16] at hm
        refine lv_aload_n hx hb dX4_refusalOfMerge_29 rfl (lv_at hl 1 rfl) ?_
        replace hm := ob hm; obtain ⟨a17, e18, hm⟩ := hm
        refine r_getA C0 hW fl_X4_72 e18 dX4_refusalOfMerge_30 ?_
        refine lv_aload hx hb dX4_refusalOfMerge_33 (lv_at hl 0 rfl) ?_
        replace hm := ob hm; obtain ⟨a19, e20, hm⟩ := hm
        refine r_getA C0 hW fl_X4_72 e20 dX4_refusalOfMerge_35 ?_
        replace hm := ob hm; obtain ⟨u21, e22, hm⟩ := hm
        replace hm := ob hm; obtain ⟨x24, e23, hm⟩ := hm
        refine z_calli (z_runV (As := [.ref a19]) (rest := []) (ci := 3) rfl rfl C0 lv_X4_76 (b_X3_isLike e23) hW hS e22 rfl hl.1 rfl (Nat.le_of_ble_eq_true rfl) dX4_refusalOfMerge_38 rfl rfl ⟨Nat.le_of_ble_eq_true rfl, Nat.le_of_ble_eq_true rfl⟩ ⟨Nat.le_refl _, Nat.le_refl _⟩) hS (fun H locs hW hS => ?_)
        refine lv_if_eq (tgt := 48) hx hb dX4_refusalOfMerge_41 (by decide) (fun h25 => ?_) (fun h25 => ?_)
        · rw [if_pos h25] at hm
          refine lv_bipush (v := (-2)) hx hb dX4_refusalOfMerge_48 (by decide) ?_
          cases hm
          exact r_iret C0 hr hlocks hW hS dX4_refusalOfMerge_50
        · rw [if_neg h25] at hm
          refine lv_iconst (v := 0) hx hb dX4_refusalOfMerge_44 (by decide) ?_
          refine lv_goto (tgt := 50) hx hb dX4_refusalOfMerge_45 (by decide) ?_
          cases hm
          exact r_iret C0 hr hlocks hW hS dX4_refusalOfMerge_50
      · rw [if_pos h16] at hm
        refine lv_iconst (v := (-1)) hx hb dX4_refusalOfMerge_27 (by decide) ?_
        cases hm
        exact r_iret C0 hr hlocks hW hS dX4_refusalOfMerge_28
set_option maxHeartbeats 4000000 in
set_option maxRecDepth 100000 in
theorem b_X4_refusalOf {l : Launch} {D : va_G} {ca : Nat → ClassId} {A : Nat → Prop} {N : Nat} {σ : zS} {v0 : Nat} {v1 : Nat} {r0 : Int32} (hm : m_X4_refusalOf N σ v0 v1 = some r0) : Met l yX4_refusalOf (.code yX4_refusalOf cX4_refusalOf 4 (some .int) :: wsL_law) ({ frames := 2, cells := 0, slots := 0, locals := 45 } : Room) (va_Pc [.ref v0, .ref v1] (zP D ca A σ)) (zQi r0 D ca A σ) 0 0 A := by
  refine zMk (by decide +kernel) (Nat.le_of_ble_eq_true rfl) ?_
  intro p e s m below meth c C0 hr hlocks hin hW ls hl
  have hx := C0.1
  have hb := C0.2.1
  have hS : va_S A s.heap s.heap [] := va_S.rf
  have hl : lv_has ls 4 [(0, .ref v0), (1, .ref v1)] := hl
  unfold m_X4_refusalOf at hm
  refine lv_aload_n hx hb dX4_refusalOf_0 rfl (lv_at hl 1 rfl) ?_
  refine lv_iconst (v := 0) hx hb dX4_refusalOf_1 (by decide) ?_
  replace hm := ob hm; obtain ⟨u1, e2, hm⟩ := hm
  replace hm := ob hm; obtain ⟨x4, e3, hm⟩ := hm
  refine z_calli (z_runV (As := [.int 0]) (rest := []) (ci := 0) rfl rfl C0 lv_X4_43 (b_X0_numberAt e3) hW hS e2 rfl hl.1 rfl (Nat.le_of_ble_eq_true rfl) dX4_refusalOf_2 rfl rfl ⟨Nat.le_of_ble_eq_true rfl, Nat.le_of_ble_eq_true rfl⟩ ⟨Nat.le_refl _, Nat.le_refl _⟩) hS (fun H locs hW hS => ?_)
  refine lv_istore_n (lv' := [(2, .int x4), (0, .ref v0), (1, .ref v1)]) hx hb dX4_refusalOf_5 rfl hl (by decide) rfl (fun ls hl => ?_)
  refine lv_aload_n hx hb dX4_refusalOf_6 rfl (lv_at hl 2 rfl) ?_
  refine lv_iconst (v := 1) hx hb dX4_refusalOf_7 (by decide) ?_
  replace hm := ob hm; obtain ⟨u5, e6, hm⟩ := hm
  replace hm := ob hm; obtain ⟨x8, e7, hm⟩ := hm
  refine z_calli (z_runV (As := [.int 1]) (rest := []) (ci := 0) rfl rfl C0 lv_X4_43 (b_X0_numberAt e7) hW hS e6 rfl hl.1 rfl (Nat.le_of_ble_eq_true rfl) dX4_refusalOf_8 rfl rfl ⟨Nat.le_of_ble_eq_true rfl, Nat.le_of_ble_eq_true rfl⟩ ⟨Nat.le_refl _, Nat.le_refl _⟩) hS (fun H locs hW hS => ?_)
  refine lv_istore_n (lv' := [(3, .int x8), (2, .int x4), (0, .ref v0), (1, .ref v1)]) hx hb dX4_refusalOf_11 rfl hl (by decide) rfl (fun ls hl => ?_)
  refine lv_aload_n hx hb dX4_refusalOf_12 rfl (lv_at hl 3 rfl) ?_
  replace hm := ob hm; obtain ⟨x9, e10, hm⟩ := hm
  refine r_getI C0 hW fl_X4_49 e10 dX4_refusalOf_13 ?_
  by_cases h11 : x9 = 97
  · rw [if_pos h11] at hm
    refine z_top (congrArg some h11) ?_
    refine lv_lookup (tgt := 67) hx hb dX4_refusalOf_16 (by decide) rfl (by decide) ?_
    refine lv_aload_n hx hb dX4_refusalOf_67 rfl (lv_at hl 2 rfl) ?_
    refine lv_iload_n hx hb dX4_refusalOf_68 rfl (lv_at hl 1 rfl) ?_
    refine lv_iload_n hx hb dX4_refusalOf_69 rfl (lv_at hl 0 rfl) ?_
    refine lv_iconst (v := 0) hx hb dX4_refusalOf_70 (by decide) ?_
    refine lv_iconst (v := 1) hx hb dX4_refusalOf_71 (by decide) ?_
    replace hm := ob hm; obtain ⟨u12, e13, hm⟩ := hm
    replace hm := ob hm; obtain ⟨x15, e14, hm⟩ := hm
    refine z_calli (z_runV (As := [.int x4, .int x8, .int 0, .int 1]) (rest := []) (ci := 4) rfl rfl C0 lv_X4_57 (b_X4_refusalOfRow e14) hW hS e13 rfl hl.1 rfl (Nat.le_of_ble_eq_true rfl) dX4_refusalOf_72 rfl rfl ⟨Nat.le_of_ble_eq_true rfl, Nat.le_of_ble_eq_true rfl⟩ ⟨Nat.le_refl _, Nat.le_refl _⟩) hS (fun H locs hW hS => ?_)
    cases hm
    exact r_iret C0 hr hlocks hW hS dX4_refusalOf_75
  · rw [if_neg h11] at hm
    by_cases h16 : x9 = 107
    · rw [if_pos h16] at hm
      refine z_top (congrArg some h16) ?_
      refine lv_lookup (tgt := 60) hx hb dX4_refusalOf_16 (by decide) rfl (by decide) ?_
      refine lv_aload_n hx hb dX4_refusalOf_60 rfl (lv_at hl 2 rfl) ?_
      refine lv_iload_n hx hb dX4_refusalOf_61 rfl (lv_at hl 1 rfl) ?_
      refine lv_iload_n hx hb dX4_refusalOf_62 rfl (lv_at hl 0 rfl) ?_
      replace hm := ob hm; obtain ⟨u17, e18, hm⟩ := hm
      replace hm := ob hm; obtain ⟨x20, e19, hm⟩ := hm
      refine z_calli (z_runV (As := [.int x4, .int x8]) (rest := []) (ci := 4) rfl rfl C0 lv_X4_53 (b_X4_refusalOfTable e19) hW hS e18 rfl hl.1 rfl (Nat.le_of_ble_eq_true rfl) dX4_refusalOf_63 rfl rfl ⟨Nat.le_of_ble_eq_true rfl, Nat.le_of_ble_eq_true rfl⟩ ⟨Nat.le_refl _, Nat.le_refl _⟩) hS (fun H locs hW hS => ?_)
      cases hm
      exact r_iret C0 hr hlocks hW hS dX4_refusalOf_66
    · rw [if_neg h16] at hm
      by_cases h21 : x9 = 109
      · rw [if_pos h21] at hm
        refine z_top (congrArg some h21) ?_
        refine lv_lookup (tgt := 93) hx hb dX4_refusalOf_16 (by decide) rfl (by decide) ?_
        refine lv_aload_n hx hb dX4_refusalOf_93 rfl (lv_at hl 2 rfl) ?_
        refine lv_iload_n hx hb dX4_refusalOf_94 rfl (lv_at hl 1 rfl) ?_
        refine lv_iload_n hx hb dX4_refusalOf_95 rfl (lv_at hl 0 rfl) ?_
        replace hm := ob hm; obtain ⟨u22, e23, hm⟩ := hm
        replace hm := ob hm; obtain ⟨x25, e24, hm⟩ := hm
        refine z_calli (z_runV (As := [.int x4, .int x8]) (rest := []) (ci := 4) rfl rfl C0 lv_X4_61 (b_X4_refusalOfMerge e24) hW hS e23 rfl hl.1 rfl (Nat.le_of_ble_eq_true rfl) dX4_refusalOf_96 rfl rfl ⟨Nat.le_of_ble_eq_true rfl, Nat.le_of_ble_eq_true rfl⟩ ⟨Nat.le_refl _, Nat.le_refl _⟩) hS (fun H locs hW hS => ?_)
        cases hm
        exact r_iret C0 hr hlocks hW hS dX4_refusalOf_99
      · rw [if_neg h21] at hm
        by_cases h26 : x9 = 115
        · rw [if_pos h26] at hm
          refine z_top (congrArg some h26) ?_
          refine lv_lookup (tgt := 76) hx hb dX4_refusalOf_16 (by decide) rfl (by decide) ?_
          refine lv_aload_n hx hb dX4_refusalOf_76 rfl (lv_at hl 2 rfl) ?_
          refine lv_iload_n hx hb dX4_refusalOf_77 rfl (lv_at hl 1 rfl) ?_
          refine lv_iload_n hx hb dX4_refusalOf_78 rfl (lv_at hl 0 rfl) ?_
          refine lv_aload_n hx hb dX4_refusalOf_79 rfl (lv_at hl 3 rfl) ?_
          refine lv_iconst (v := 2) hx hb dX4_refusalOf_80 (by decide) ?_
          replace hm := ob hm; obtain ⟨u27, e28, hm⟩ := hm
          replace hm := ob hm; obtain ⟨x30, e29, hm⟩ := hm
          refine z_calli (z_runV (As := [.int 2]) (rest := [.int x8, .int x4, .ref v0]) (ci := 0) rfl rfl C0 lv_X4_43 (b_X0_numberAt e29) hW hS e28 rfl hl.1 rfl (Nat.le_of_ble_eq_true rfl) dX4_refusalOf_81 rfl rfl ⟨Nat.le_of_ble_eq_true rfl, Nat.le_of_ble_eq_true rfl⟩ ⟨Nat.le_refl _, Nat.le_refl _⟩) hS (fun H locs hW hS => ?_)
          refine lv_aload_n hx hb dX4_refusalOf_84 rfl (lv_at hl 3 rfl) ?_
          refine lv_iconst (v := 3) hx hb dX4_refusalOf_85 (by decide) ?_
          replace hm := ob hm; obtain ⟨u31, e32, hm⟩ := hm
          replace hm := ob hm; obtain ⟨x34, e33, hm⟩ := hm
          refine z_calli (z_runV (As := [.int 3]) (rest := [.int x30, .int x8, .int x4, .ref v0]) (ci := 0) rfl rfl C0 lv_X4_43 (b_X0_numberAt e33) hW hS e32 rfl hl.1 rfl (Nat.le_of_ble_eq_true rfl) dX4_refusalOf_86 rfl rfl ⟨Nat.le_of_ble_eq_true rfl, Nat.le_of_ble_eq_true rfl⟩ ⟨Nat.le_refl _, Nat.le_refl _⟩) hS (fun H locs hW hS => ?_)
          replace hm := ob hm; obtain ⟨u35, e36, hm⟩ := hm
          replace hm := ob hm; obtain ⟨x38, e37, hm⟩ := hm
          refine z_calli (z_runV (As := [.int x4, .int x8, .int x30, .int x34]) (rest := []) (ci := 4) rfl rfl C0 lv_X4_57 (b_X4_refusalOfRow e37) hW hS e36 rfl hl.1 rfl (Nat.le_of_ble_eq_true rfl) dX4_refusalOf_89 rfl rfl ⟨Nat.le_of_ble_eq_true rfl, Nat.le_of_ble_eq_true rfl⟩ ⟨Nat.le_refl _, Nat.le_refl _⟩) hS (fun H locs hW hS => ?_)
          cases hm
          exact r_iret C0 hr hlocks hW hS dX4_refusalOf_92
        · rw [if_neg h26] at hm
          refine lv_lookup (tgt := 100) (off := 84) hx hb dX4_refusalOf_16 (by decide) (show Op.lookupswitch.offset [(97, 51), (107, 44), (109, 77), (115, 60)] 84 _ = 84 from (lv_osw h11 (by decide)).trans ((lv_osw h16 (by decide)).trans ((lv_osw h21 (by decide)).trans ((lv_osw h26 (by decide)).trans (rfl))))) (by decide) ?_
          refine lv_aload_n hx hb dX4_refusalOf_100 rfl (lv_at hl 2 rfl) ?_
          refine lv_iload_n hx hb dX4_refusalOf_101 rfl (lv_at hl 1 rfl) ?_
          replace hm := ob hm; obtain ⟨u39, e40, hm⟩ := hm
          replace hm := ob hm; obtain ⟨r42, e41, hm⟩ := hm
          refine z_callq (z_runV (As := [.int x4]) (rest := []) (ci := 4) rfl rfl C0 lv_X4_36 (b_X4_find e41) hW hS e40 rfl hl.1 rfl (Nat.le_of_ble_eq_true rfl) dX4_refusalOf_102 rfl rfl ⟨Nat.le_of_ble_eq_true rfl, Nat.le_of_ble_eq_true rfl⟩ ⟨Nat.le_refl _, Nat.le_refl _⟩) hS (fun H locs hW hS => ?_)
          replace hm := oe hm; rcases hm with ⟨hn, hm⟩ | ⟨a43, hn, hm⟩
          · subst hn
            refine lv_ifnonnullN hx hb dX4_refusalOf_105 ?_
            refine lv_iconst (v := (-1)) hx hb dX4_refusalOf_108 (by decide) ?_
            refine lv_goto (tgt := 113) hx hb dX4_refusalOf_109 (by decide) ?_
            cases hm
            exact r_iret C0 hr hlocks hW hS dX4_refusalOf_113
          · subst hn
            refine lv_ifnonnull (tgt := 112) hx hb dX4_refusalOf_105 (by decide) ?_
            refine lv_iconst (v := 0) hx hb dX4_refusalOf_112 (by decide) ?_
            cases hm
            exact r_iret C0 hr hlocks hW hS dX4_refusalOf_113
set_option maxHeartbeats 4000000 in
set_option maxRecDepth 100000 in
theorem b_X5_timeOf {l : Launch} {D : va_G} {ca : Nat → ClassId} {A : Nat → Prop} {N : Nat} {σ : zS} {v0 : Nat} {v1 : Int32} {r0 : Int32} (hm : m_X5_timeOf N σ v0 v1 = some r0) : Met l yX5_timeOf (.code yX5_timeOf cX5_timeOf 2 (some .int) :: wsL_law) ({ frames := 1, cells := 0, slots := 0, locals := 20 } : Room) (va_Pc [.ref v0, .int v1] (zP D ca A σ)) (zQi r0 D ca A σ) 0 0 A := by
  refine zMk (by decide +kernel) (Nat.le_of_ble_eq_true rfl) ?_
  intro p e s m below meth c C0 hr hlocks hin hW ls hl
  have hx := C0.1
  have hb := C0.2.1
  have hS : va_S A s.heap s.heap [] := va_S.rf
  have hl : lv_has ls 2 [(0, .ref v0), (1, .int v1)] := hl
  unfold m_X5_timeOf at hm
  refine lv_iload_n hx hb dX5_timeOf_0 rfl (lv_at hl 1 rfl) ?_
  replace hm := ob hm; obtain ⟨x2, e1, hm⟩ := hm
  refine z_calli (z_runN (As := [.int v1]) (rest := []) C0 ln_X5_60 (b_X8_isThing e1) hW hS rfl hl.1 rfl (Nat.le_of_ble_eq_true rfl) dX5_timeOf_1 rfl rfl ⟨Nat.le_of_ble_eq_true rfl, Nat.le_of_ble_eq_true rfl⟩ ⟨Nat.le_refl _, Nat.le_refl _⟩) hS (fun H locs hW hS => ?_)
  refine lv_if_eq (tgt := 16) hx hb dX5_timeOf_4 (by decide) (fun h3 => ?_) (fun h3 => ?_)
  · rw [if_pos h3] at hm
    refine lv_iconst (v := (-1)) hx hb dX5_timeOf_16 (by decide) ?_
    cases hm
    exact r_iret C0 hr hlocks hW hS dX5_timeOf_17
  · rw [if_neg h3] at hm
    refine lv_aload_n hx hb dX5_timeOf_7 rfl (lv_at hl 0 rfl) ?_
    replace hm := ob hm; obtain ⟨a4, e5, hm⟩ := hm
    refine r_getA C0 hW fl_X5_18 e5 dX5_timeOf_8 ?_
    refine lv_iload_n hx hb dX5_timeOf_11 rfl (lv_at hl 1 rfl) ?_
    replace hm := ob hm; obtain ⟨x6, e7, hm⟩ := hm
    refine r_aI C0 hW e7 dX5_timeOf_12 ?_
    refine lv_goto (tgt := 17) hx hb dX5_timeOf_13 (by decide) ?_
    cases hm
    exact r_iret C0 hr hlocks hW hS dX5_timeOf_17
set_option maxHeartbeats 4000000 in
set_option maxRecDepth 100000 in
theorem b_X5_saw {l : Launch} {D : va_G} {ca : Nat → ClassId} {A : Nat → Prop} {N : Nat} {σ : zS} {v0 : Nat} {v1 : Int32} {r0 : Int32} (hm : m_X5_saw N σ v0 v1 = some r0) : Met l yX5_saw (.code yX5_saw cX5_saw 2 (some .boolean) :: wsL_law) ({ frames := 2, cells := 0, slots := 0, locals := 41 } : Room) (va_Pc [.ref v0, .int v1] (zP D ca A σ)) (zQi r0 D ca A σ) 0 0 A := by
  refine zMk (by decide +kernel) (Nat.le_of_ble_eq_true rfl) ?_
  intro p e s m below meth c C0 hr hlocks hin hW ls hl
  have hx := C0.1
  have hb := C0.2.1
  have hS : va_S A s.heap s.heap [] := va_S.rf
  have hl : lv_has ls 2 [(0, .ref v0), (1, .int v1)] := hl
  unfold m_X5_saw at hm
  refine lv_aload_n hx hb dX5_saw_0 rfl (lv_at hl 0 rfl) ?_
  refine lv_iload_n hx hb dX5_saw_1 rfl (lv_at hl 1 rfl) ?_
  replace hm := ob hm; obtain ⟨u1, e2, hm⟩ := hm
  replace hm := ob hm; obtain ⟨x4, e3, hm⟩ := hm
  refine z_calli (z_runV (As := [.int v1]) (rest := []) (ci := 5) rfl rfl C0 lv_X5_56 (b_X5_timeOf e3) hW hS e2 rfl hl.1 rfl (Nat.le_of_ble_eq_true rfl) dX5_saw_2 rfl rfl ⟨Nat.le_of_ble_eq_true rfl, Nat.le_of_ble_eq_true rfl⟩ ⟨Nat.le_refl _, Nat.le_refl _⟩) hS (fun H locs hW hS => ?_)
  refine lv_iconst (v := (-1)) hx hb dX5_saw_5 (by decide) ?_
  refine lv_icmp_eq (tgt := 13) hx hb dX5_saw_6 (by decide) (fun h5 => ?_) (fun h5 => ?_)
  · rw [if_pos h5] at hm
    refine lv_iconst (v := 0) hx hb dX5_saw_13 (by decide) ?_
    cases hm
    exact r_zret C0 hr rfl hlocks hW hS dX5_saw_14
  · rw [if_neg h5] at hm
    refine lv_iconst (v := 1) hx hb dX5_saw_9 (by decide) ?_
    refine lv_goto (tgt := 14) hx hb dX5_saw_10 (by decide) ?_
    cases hm
    exact r_zret C0 hr rfl hlocks hW hS dX5_saw_14
set_option maxHeartbeats 4000000 in
set_option maxRecDepth 100000 in
theorem w_X4_tablesWithThing_L4 {p : Program} {l : Launch} {e : Env} {s : State} {m : MethodId} {args : Array Value} {below : List Frame} {meth : Method} {c : Code} {D : va_G} {ca : Nat → ClassId} {A : Nat → Prop} {Q : State → Prop} (N : Nat) : ∀ (n : Nat) {σ : zS} {v0 : Nat} {v1 : Int32} {v2 : Int32} {v3 : Int32} {y2 : Int32} {H : Heap} {locs : List Loc} {ls : Array Slot}, m_X4_tablesWithThing_L4 N n σ v0 v1 v2 v3 = some y2 → zC p s m args c RX4 cX4_tablesWithThing 5 D ca A → zW D ca A σ H → va_S A s.heap H locs → lv_has ls 5 [(0, .ref v0), (1, .int v1), (2, .int v2), (3, .int v3)] → (∀ (H : Heap) (locs : List Loc) (ls : Array Slot), zW D ca A σ H → va_S A s.heap H locs → lv_has ls 5 [(2, .int y2)] → W p l e ({ frames := 3, cells := 0, slots := 0, locals := 62 } : Room) s m args below meth c H locs 0 0 Q (F0 m 40 ls [])) → W p l e ({ frames := 3, cells := 0, slots := 0, locals := 62 } : Room) s m args below meth c H locs 0 0 Q (F0 m 4 ls []) := by
  intro n
  induction n with
  | zero =>
    intro σ v0 v1 v2 v3 y2 H locs ls hm C0 hW hS hl kk
    rw [m_X4_tablesWithThing_L4] at hm
    cases hm
  | succ n ih =>
    intro σ v0 v1 v2 v3 y2 H locs ls hm C0 hW hS hl kk
    rw [m_X4_tablesWithThing_L4] at hm
    have hx := C0.1
    have hb := C0.2.1
    refine lv_iload_n hx hb dX4_tablesWithThing_4 rfl (lv_at hl 3 rfl) ?_
    refine lv_bipush (v := 6) hx hb dX4_tablesWithThing_5 (by decide) ?_
    refine lv_icmp_ge (tgt := 40) hx hb dX4_tablesWithThing_7 (by decide) (fun h1 => ?_) (fun h1 => ?_)
    · rw [if_pos h1] at hm
      cases hm
      exact kk _ _ _ hW hS (lv_sub hl [2] rfl)
    · rw [if_neg h1] at hm
      refine lv_aload_n hx hb dX4_tablesWithThing_10 rfl (lv_at hl 0 rfl) ?_
      refine lv_iload_n hx hb dX4_tablesWithThing_11 rfl (lv_at hl 3 rfl) ?_
      replace hm := ob hm; obtain ⟨u2, e3, hm⟩ := hm
      replace hm := ob hm; obtain ⟨r5, e4, hm⟩ := hm
      refine z_callq (z_runV (As := [.int v3]) (rest := []) (ci := 4) rfl rfl C0 lv_X4_36 (b_X4_find e4) hW hS e3 rfl hl.1 rfl (Nat.le_of_ble_eq_true rfl) dX4_tablesWithThing_12 rfl rfl ⟨Nat.le_of_ble_eq_true rfl, Nat.le_of_ble_eq_true rfl⟩ ⟨Nat.le_refl _, Nat.le_refl _⟩) hS (fun H locs hW hS => ?_)
      replace hm := oe hm; rcases hm with ⟨hn, hm⟩ | ⟨a6, hn, hm⟩
      · subst hn
        refine lv_astoreN (lv' := [(4, .null), (0, .ref v0), (1, .int v1), (2, .int v2), (3, .int v3)]) hx hb dX4_tablesWithThing_15 hl (by decide) rfl (fun ls hl => ?_)
        refine lv_aloadN hx hb dX4_tablesWithThing_17 (lv_at hl 0 rfl) ?_
        refine lv_ifnullN (tgt := 34) hx hb dX4_tablesWithThing_19 (by decide) ?_
        replace hm := ob hm; obtain ⟨x7, e8, hm⟩ := hm
        refine lv_iinc (v := x7) (lv' := [(3, .int x7), (4, .null), (0, .ref v0), (1, .int v1), (2, .int v2)]) hx hb dX4_tablesWithThing_34 hl (k := 4) rfl (Option.some.inj e8) (by decide) rfl (fun ls hl => ?_)
        refine lv_goto (tgt := 4) hx hb dX4_tablesWithThing_37 (by decide) ?_
        exact ih hm C0 hW hS (lv_sub hl [2, 3, 4, 0] rfl) kk
      · subst hn
        refine lv_astore (lv' := [(4, .ref a6), (0, .ref v0), (1, .int v1), (2, .int v2), (3, .int v3)]) hx hb dX4_tablesWithThing_15 hl (by decide) rfl (fun ls hl => ?_)
        refine lv_aload hx hb dX4_tablesWithThing_17 (lv_at hl 0 rfl) ?_
        refine lv_ifnull hx hb dX4_tablesWithThing_19 ?_
        refine lv_aload hx hb dX4_tablesWithThing_22 (lv_at hl 0 rfl) ?_
        refine lv_iload_n hx hb dX4_tablesWithThing_24 rfl (lv_at hl 2 rfl) ?_
        replace hm := ob hm; obtain ⟨u9, e10, hm⟩ := hm
        replace hm := ob hm; obtain ⟨x12, e11, hm⟩ := hm
        refine z_calli (z_runV (As := [.int v1]) (rest := []) (ci := 5) rfl rfl C0 lv_X4_130 (b_X5_saw e11) hW hS e10 rfl hl.1 rfl (Nat.le_of_ble_eq_true rfl) dX4_tablesWithThing_25 rfl rfl ⟨Nat.le_of_ble_eq_true rfl, Nat.le_of_ble_eq_true rfl⟩ ⟨Nat.le_refl _, Nat.le_refl _⟩) hS (fun H locs hW hS => ?_)
        replace hm := ob hm; obtain ⟨y17, e20, hm⟩ := hm
        have J34_13 : ∀ (H : Heap) (locs : List Loc) (ls : Array Slot), zW D ca A σ H → va_S A s.heap H locs → lv_has ls 5 [(0, .ref v0), (1, .int v1), (3, .int v3), (2, .int y17)] → W p l e ({ frames := 3, cells := 0, slots := 0, locals := 62 } : Room) s m args below meth c H locs 0 0 Q (F0 m 34 ls []) := by
          intro H locs ls hW hS hl
          replace hm := ob hm; obtain ⟨x18, e19, hm⟩ := hm
          refine lv_iinc (v := x18) (lv' := [(3, .int x18), (0, .ref v0), (1, .int v1), (2, .int y17)]) hx hb dX4_tablesWithThing_34 hl (k := 2) rfl (Option.some.inj e19) (by decide) rfl (fun ls hl => ?_)
          refine lv_goto (tgt := 4) hx hb dX4_tablesWithThing_37 (by decide) ?_
          exact ih hm C0 hW hS (lv_sub hl [1, 2, 3, 0] rfl) kk
        clear hm
        have hm := e20
        clear e20
        refine lv_if_eq (tgt := 34) hx hb dX4_tablesWithThing_28 (by decide) (fun h13 => ?_) (fun h13 => ?_)
        · rw [if_pos h13] at hm
          have hq1 := Option.some.inj hm; subst hq1
          exact J34_13 _ _ _ hW hS (lv_sub hl [1, 2, 4, 3] rfl)
        · rw [if_neg h13] at hm
          replace hm := ob hm; obtain ⟨x15, e16, hm⟩ := hm
          refine lv_iinc (v := x15) (lv' := [(2, .int x15), (4, .ref a6), (0, .ref v0), (1, .int v1), (3, .int v3)]) hx hb dX4_tablesWithThing_31 hl (k := 3) rfl (Option.some.inj e16) (by decide) rfl (fun ls hl => ?_)
          have hq1 := Option.some.inj hm; subst hq1
          exact J34_13 _ _ _ hW hS (lv_sub hl [2, 3, 4, 0] rfl)
set_option maxHeartbeats 4000000 in
set_option maxRecDepth 100000 in
theorem b_X4_tablesWithThing {l : Launch} {D : va_G} {ca : Nat → ClassId} {A : Nat → Prop} {N : Nat} {σ : zS} {v0 : Nat} {v1 : Int32} {r0 : Int32} (hm : m_X4_tablesWithThing N σ v0 v1 = some r0) : Met l yX4_tablesWithThing (.code yX4_tablesWithThing cX4_tablesWithThing 5 (some .int) :: wsL_law) ({ frames := 3, cells := 0, slots := 0, locals := 62 } : Room) (va_Pc [.ref v0, .int v1] (zP D ca A σ)) (zQi r0 D ca A σ) 0 0 A := by
  refine zMk (by decide +kernel) (Nat.le_of_ble_eq_true rfl) ?_
  intro p e s m below meth c C0 hr hlocks hin hW ls hl
  have hx := C0.1
  have hb := C0.2.1
  have hS : va_S A s.heap s.heap [] := va_S.rf
  have hl : lv_has ls 5 [(0, .ref v0), (1, .int v1)] := hl
  unfold m_X4_tablesWithThing at hm
  refine lv_iconst (v := 0) hx hb dX4_tablesWithThing_0 (by decide) ?_
  refine lv_istore_n (lv' := [(2, .int 0), (0, .ref v0), (1, .int v1)]) hx hb dX4_tablesWithThing_1 rfl hl (by decide) rfl (fun ls hl => ?_)
  refine lv_iconst (v := 0) hx hb dX4_tablesWithThing_2 (by decide) ?_
  refine lv_istore_n (lv' := [(3, .int 0), (2, .int 0), (0, .ref v0), (1, .int v1)]) hx hb dX4_tablesWithThing_3 rfl hl (by decide) rfl (fun ls hl => ?_)
  replace hm := ob hm; obtain ⟨y21, e22, hm⟩ := hm
  refine w_X4_tablesWithThing_L4 N N e22 C0 hW hS (lv_sub hl [2, 3, 1, 0] rfl) (fun H locs ls hW hS hl => ?_)
  refine lv_iload_n hx hb dX4_tablesWithThing_40 rfl (lv_at hl 0 rfl) ?_
  cases hm
  exact r_iret C0 hr hlocks hW hS dX4_tablesWithThing_41
set_option maxHeartbeats 4000000 in
set_option maxRecDepth 100000 in
theorem w_X4_tablesWithoutError_L4 {p : Program} {l : Launch} {e : Env} {s : State} {m : MethodId} {args : Array Value} {below : List Frame} {meth : Method} {c : Code} {D : va_G} {ca : Nat → ClassId} {A : Nat → Prop} {Q : State → Prop} (N : Nat) : ∀ (n : Nat) {σ : zS} {v0 : Nat} {v1 : Int32} {v2 : Int32} {y1 : Int32} {H : Heap} {locs : List Loc} {ls : Array Slot}, m_X4_tablesWithoutError_L4 N n σ v0 v1 v2 = some y1 → zC p s m args c RX4 cX4_tablesWithoutError 4 D ca A → zW D ca A σ H → va_S A s.heap H locs → lv_has ls 4 [(0, .ref v0), (1, .int v1), (2, .int v2)] → (∀ (H : Heap) (locs : List Loc) (ls : Array Slot), zW D ca A σ H → va_S A s.heap H locs → lv_has ls 4 [(1, .int y1)] → W p l e ({ frames := 4, cells := 0, slots := 0, locals := 86 } : Room) s m args below meth c H locs 0 0 Q (F0 m 36 ls [])) → W p l e ({ frames := 4, cells := 0, slots := 0, locals := 86 } : Room) s m args below meth c H locs 0 0 Q (F0 m 4 ls []) := by
  intro n
  induction n with
  | zero =>
    intro σ v0 v1 v2 y1 H locs ls hm C0 hW hS hl kk
    rw [m_X4_tablesWithoutError_L4] at hm
    cases hm
  | succ n ih =>
    intro σ v0 v1 v2 y1 H locs ls hm C0 hW hS hl kk
    rw [m_X4_tablesWithoutError_L4] at hm
    have hx := C0.1
    have hb := C0.2.1
    refine lv_iload_n hx hb dX4_tablesWithoutError_4 rfl (lv_at hl 2 rfl) ?_
    refine lv_bipush (v := 6) hx hb dX4_tablesWithoutError_5 (by decide) ?_
    refine lv_icmp_ge (tgt := 36) hx hb dX4_tablesWithoutError_7 (by decide) (fun h1 => ?_) (fun h1 => ?_)
    · rw [if_pos h1] at hm
      cases hm
      exact kk _ _ _ hW hS (lv_sub hl [1] rfl)
    · rw [if_neg h1] at hm
      refine lv_aload_n hx hb dX4_tablesWithoutError_10 rfl (lv_at hl 0 rfl) ?_
      refine lv_iload_n hx hb dX4_tablesWithoutError_11 rfl (lv_at hl 2 rfl) ?_
      replace hm := ob hm; obtain ⟨u2, e3, hm⟩ := hm
      replace hm := ob hm; obtain ⟨r5, e4, hm⟩ := hm
      refine z_callq (z_runV (As := [.int v2]) (rest := []) (ci := 4) rfl rfl C0 lv_X4_36 (b_X4_find e4) hW hS e3 rfl hl.1 rfl (Nat.le_of_ble_eq_true rfl) dX4_tablesWithoutError_12 rfl rfl ⟨Nat.le_of_ble_eq_true rfl, Nat.le_of_ble_eq_true rfl⟩ ⟨Nat.le_refl _, Nat.le_refl _⟩) hS (fun H locs hW hS => ?_)
      replace hm := oe hm; rcases hm with ⟨hn, hm⟩ | ⟨a6, hn, hm⟩
      · subst hn
        refine lv_astore_nN (lv' := [(3, .null), (0, .ref v0), (1, .int v1), (2, .int v2)]) hx hb dX4_tablesWithoutError_15 rfl hl (by decide) rfl (fun ls hl => ?_)
        refine lv_aload_nN hx hb dX4_tablesWithoutError_16 rfl (lv_at hl 0 rfl) ?_
        refine lv_ifnullN (tgt := 30) hx hb dX4_tablesWithoutError_17 (by decide) ?_
        replace hm := ob hm; obtain ⟨x7, e8, hm⟩ := hm
        refine lv_iinc (v := x7) (lv' := [(2, .int x7), (3, .null), (0, .ref v0), (1, .int v1)]) hx hb dX4_tablesWithoutError_30 hl (k := 3) rfl (Option.some.inj e8) (by decide) rfl (fun ls hl => ?_)
        refine lv_goto (tgt := 4) hx hb dX4_tablesWithoutError_33 (by decide) ?_
        exact ih hm C0 hW hS (lv_sub hl [2, 3, 0] rfl) kk
      · subst hn
        refine lv_astore_n (lv' := [(3, .ref a6), (0, .ref v0), (1, .int v1), (2, .int v2)]) hx hb dX4_tablesWithoutError_15 rfl hl (by decide) rfl (fun ls hl => ?_)
        refine lv_aload_n hx hb dX4_tablesWithoutError_16 rfl (lv_at hl 0 rfl) ?_
        refine lv_ifnull hx hb dX4_tablesWithoutError_17 ?_
        refine lv_aload_n hx hb dX4_tablesWithoutError_20 rfl (lv_at hl 0 rfl) ?_
        replace hm := ob hm; obtain ⟨u9, e10, hm⟩ := hm
        replace hm := ob hm; obtain ⟨x12, e11, hm⟩ := hm
        refine z_calli (z_runV (As := []) (rest := []) (ci := 5) rfl rfl C0 lv_X4_136 (b_X5_error e11) hW hS e10 rfl hl.1 rfl (Nat.le_of_ble_eq_true rfl) dX4_tablesWithoutError_21 rfl rfl ⟨Nat.le_of_ble_eq_true rfl, Nat.le_of_ble_eq_true rfl⟩ ⟨Nat.le_refl _, Nat.le_refl _⟩) hS (fun H locs hW hS => ?_)
        replace hm := ob hm; obtain ⟨y17, e20, hm⟩ := hm
        have J30_13 : ∀ (H : Heap) (locs : List Loc) (ls : Array Slot), zW D ca A σ H → va_S A s.heap H locs → lv_has ls 4 [(0, .ref v0), (2, .int v2), (1, .int y17)] → W p l e ({ frames := 4, cells := 0, slots := 0, locals := 86 } : Room) s m args below meth c H locs 0 0 Q (F0 m 30 ls []) := by
          intro H locs ls hW hS hl
          replace hm := ob hm; obtain ⟨x18, e19, hm⟩ := hm
          refine lv_iinc (v := x18) (lv' := [(2, .int x18), (0, .ref v0), (1, .int y17)]) hx hb dX4_tablesWithoutError_30 hl (k := 1) rfl (Option.some.inj e19) (by decide) rfl (fun ls hl => ?_)
          refine lv_goto (tgt := 4) hx hb dX4_tablesWithoutError_33 (by decide) ?_
          exact ih hm C0 hW hS (lv_sub hl [1, 2, 0] rfl) kk
        clear hm
        have hm := e20
        clear e20
        refine lv_if_ne (tgt := 30) hx hb dX4_tablesWithoutError_24 (by decide) (fun h13 => ?_) (fun h13 => ?_)
        · rw [if_neg h13] at hm
          have hq1 := Option.some.inj hm; subst hq1
          exact J30_13 _ _ _ hW hS (lv_sub hl [1, 3, 2] rfl)
        · rw [if_pos h13] at hm
          replace hm := ob hm; obtain ⟨x15, e16, hm⟩ := hm
          refine lv_iinc (v := x15) (lv' := [(1, .int x15), (3, .ref a6), (0, .ref v0), (2, .int v2)]) hx hb dX4_tablesWithoutError_27 hl (k := 2) rfl (Option.some.inj e16) (by decide) rfl (fun ls hl => ?_)
          have hq1 := Option.some.inj hm; subst hq1
          exact J30_13 _ _ _ hW hS (lv_sub hl [2, 3, 0] rfl)
set_option maxHeartbeats 4000000 in
set_option maxRecDepth 100000 in
theorem b_X4_tablesWithoutError {l : Launch} {D : va_G} {ca : Nat → ClassId} {A : Nat → Prop} {N : Nat} {σ : zS} {v0 : Nat} {r0 : Int32} (hm : m_X4_tablesWithoutError N σ v0 = some r0) : Met l yX4_tablesWithoutError (.code yX4_tablesWithoutError cX4_tablesWithoutError 4 (some .int) :: wsL_law) ({ frames := 4, cells := 0, slots := 0, locals := 86 } : Room) (va_Pc [.ref v0] (zP D ca A σ)) (zQi r0 D ca A σ) 0 0 A := by
  refine zMk (by decide +kernel) (Nat.le_of_ble_eq_true rfl) ?_
  intro p e s m below meth c C0 hr hlocks hin hW ls hl
  have hx := C0.1
  have hb := C0.2.1
  have hS : va_S A s.heap s.heap [] := va_S.rf
  have hl : lv_has ls 4 [(0, .ref v0)] := hl
  unfold m_X4_tablesWithoutError at hm
  refine lv_iconst (v := 0) hx hb dX4_tablesWithoutError_0 (by decide) ?_
  refine lv_istore_n (lv' := [(1, .int 0), (0, .ref v0)]) hx hb dX4_tablesWithoutError_1 rfl hl (by decide) rfl (fun ls hl => ?_)
  refine lv_iconst (v := 0) hx hb dX4_tablesWithoutError_2 (by decide) ?_
  refine lv_istore_n (lv' := [(2, .int 0), (1, .int 0), (0, .ref v0)]) hx hb dX4_tablesWithoutError_3 rfl hl (by decide) rfl (fun ls hl => ?_)
  replace hm := ob hm; obtain ⟨y21, e22, hm⟩ := hm
  refine w_X4_tablesWithoutError_L4 N N e22 C0 hW hS (lv_sub hl [2, 1, 0] rfl) (fun H locs ls hW hS hl => ?_)
  refine lv_iload_n hx hb dX4_tablesWithoutError_36 rfl (lv_at hl 0 rfl) ?_
  cases hm
  exact r_iret C0 hr hlocks hW hS dX4_tablesWithoutError_37
set_option maxHeartbeats 4000000 in
set_option maxRecDepth 100000 in
theorem w_X4_thingsOfAll_L4 {p : Program} {l : Launch} {e : Env} {s : State} {m : MethodId} {args : Array Value} {below : List Frame} {meth : Method} {c : Code} {D : va_G} {ca : Nat → ClassId} {A : Nat → Prop} {Q : State → Prop} (N : Nat) : ∀ (n : Nat) {σ : zS} {v0 : Nat} {v1 : Int32} {v2 : Int32} {y1 : Int32} {H : Heap} {locs : List Loc} {ls : Array Slot}, m_X4_thingsOfAll_L4 N n σ v0 v1 v2 = some y1 → zC p s m args c RX4 cX4_thingsOfAll 3 D ca A → zW D ca A σ H → va_S A s.heap H locs → lv_has ls 3 [(0, .ref v0), (1, .int v1), (2, .int v2)] → (∀ (H : Heap) (locs : List Loc) (ls : Array Slot), zW D ca A σ H → va_S A s.heap H locs → lv_has ls 3 [(1, .int y1)] → W p l e ({ frames := 4, cells := 0, slots := 0, locals := 86 } : Room) s m args below meth c H locs 0 0 Q (F0 m 39 ls [])) → W p l e ({ frames := 4, cells := 0, slots := 0, locals := 86 } : Room) s m args below meth c H locs 0 0 Q (F0 m 4 ls []) := by
  intro n
  induction n with
  | zero =>
    intro σ v0 v1 v2 y1 H locs ls hm C0 hW hS hl kk
    rw [m_X4_thingsOfAll_L4] at hm
    cases hm
  | succ n ih =>
    intro σ v0 v1 v2 y1 H locs ls hm C0 hW hS hl kk
    rw [m_X4_thingsOfAll_L4] at hm
    have hx := C0.1
    have hb := C0.2.1
    refine lv_iload_n hx hb dX4_thingsOfAll_4 rfl (lv_at hl 2 rfl) ?_
    refine lv_sipush (v := 1000) hx hb dX4_thingsOfAll_5 (by decide) ?_
    refine lv_icmp_ge (tgt := 39) hx hb dX4_thingsOfAll_8 (by decide) (fun h1 => ?_) (fun h1 => ?_)
    · rw [if_pos h1] at hm
      cases hm
      exact kk _ _ _ hW hS (lv_sub hl [1] rfl)
    · rw [if_neg h1] at hm
      refine lv_aload_n hx hb dX4_thingsOfAll_11 rfl (lv_at hl 0 rfl) ?_
      replace hm := ob hm; obtain ⟨x2, e3, hm⟩ := hm
      refine r_getI C0 hW fl_X4_25 e3 dX4_thingsOfAll_12 ?_
      replace hm := ob hm; obtain ⟨y15, e18, hm⟩ := hm
      have J33_4 : ∀ (H : Heap) (locs : List Loc) (ls : Array Slot), zW D ca A σ H → va_S A s.heap H locs → lv_has ls 3 [(0, .ref v0), (2, .int v2), (1, .int y15)] → W p l e ({ frames := 4, cells := 0, slots := 0, locals := 86 } : Room) s m args below meth c H locs 0 0 Q (F0 m 33 ls []) := by
        intro H locs ls hW hS hl
        replace hm := ob hm; obtain ⟨x16, e17, hm⟩ := hm
        refine lv_iinc (v := x16) (lv' := [(2, .int x16), (0, .ref v0), (1, .int y15)]) hx hb dX4_thingsOfAll_33 hl (k := 1) rfl (Option.some.inj e17) (by decide) rfl (fun ls hl => ?_)
        refine lv_goto (tgt := 4) hx hb dX4_thingsOfAll_36 (by decide) ?_
        exact ih hm C0 hW hS (lv_sub hl [1, 2, 0] rfl) kk
      clear hm
      have hm := e18
      clear e18
      refine lv_if_le (tgt := 33) hx hb dX4_thingsOfAll_15 (by decide) (fun h4 => ?_) (fun h4 => ?_)
      · rw [if_pos h4] at hm
        have hq1 := Option.some.inj hm; subst hq1
        exact J33_4 _ _ _ hW hS (lv_sub hl [0, 2, 1] rfl)
      · rw [if_neg h4] at hm
        refine lv_aload_n hx hb dX4_thingsOfAll_18 rfl (lv_at hl 0 rfl) ?_
        refine lv_iload_n hx hb dX4_thingsOfAll_19 rfl (lv_at hl 2 rfl) ?_
        replace hm := ob hm; obtain ⟨u6, e7, hm⟩ := hm
        replace hm := ob hm; obtain ⟨x9, e8, hm⟩ := hm
        refine z_calli (z_runV (As := [.int v2]) (rest := []) (ci := 4) rfl rfl C0 lv_X4_133 (b_X4_tablesWithThing e8) hW hS e7 rfl hl.1 rfl (Nat.le_of_ble_eq_true rfl) dX4_thingsOfAll_20 rfl rfl ⟨Nat.le_of_ble_eq_true rfl, Nat.le_of_ble_eq_true rfl⟩ ⟨Nat.le_refl _, Nat.le_refl _⟩) hS (fun H locs hW hS => ?_)
        refine lv_aload_n hx hb dX4_thingsOfAll_23 rfl (lv_at hl 0 rfl) ?_
        replace hm := ob hm; obtain ⟨x10, e11, hm⟩ := hm
        refine r_getI C0 hW fl_X4_25 e11 dX4_thingsOfAll_24 ?_
        refine lv_icmp_ne (tgt := 33) hx hb dX4_thingsOfAll_27 (by decide) (fun h12 => ?_) (fun h12 => ?_)
        · rw [if_neg h12] at hm
          have hq1 := Option.some.inj hm; subst hq1
          exact J33_4 _ _ _ hW hS (lv_sub hl [0, 2, 1] rfl)
        · rw [if_pos h12] at hm
          replace hm := ob hm; obtain ⟨x13, e14, hm⟩ := hm
          refine lv_iinc (v := x13) (lv' := [(1, .int x13), (0, .ref v0), (2, .int v2)]) hx hb dX4_thingsOfAll_30 hl (k := 1) rfl (Option.some.inj e14) (by decide) rfl (fun ls hl => ?_)
          have hq1 := Option.some.inj hm; subst hq1
          exact J33_4 _ _ _ hW hS (lv_sub hl [1, 2, 0] rfl)
set_option maxHeartbeats 4000000 in
set_option maxRecDepth 100000 in
theorem b_X4_thingsOfAll {l : Launch} {D : va_G} {ca : Nat → ClassId} {A : Nat → Prop} {N : Nat} {σ : zS} {v0 : Nat} {r0 : Int32} (hm : m_X4_thingsOfAll N σ v0 = some r0) : Met l yX4_thingsOfAll (.code yX4_thingsOfAll cX4_thingsOfAll 3 (some .int) :: wsL_law) ({ frames := 4, cells := 0, slots := 0, locals := 86 } : Room) (va_Pc [.ref v0] (zP D ca A σ)) (zQi r0 D ca A σ) 0 0 A := by
  refine zMk (by decide +kernel) (Nat.le_of_ble_eq_true rfl) ?_
  intro p e s m below meth c C0 hr hlocks hin hW ls hl
  have hx := C0.1
  have hb := C0.2.1
  have hS : va_S A s.heap s.heap [] := va_S.rf
  have hl : lv_has ls 3 [(0, .ref v0)] := hl
  unfold m_X4_thingsOfAll at hm
  refine lv_iconst (v := 0) hx hb dX4_thingsOfAll_0 (by decide) ?_
  refine lv_istore_n (lv' := [(1, .int 0), (0, .ref v0)]) hx hb dX4_thingsOfAll_1 rfl hl (by decide) rfl (fun ls hl => ?_)
  refine lv_iconst (v := 0) hx hb dX4_thingsOfAll_2 (by decide) ?_
  refine lv_istore_n (lv' := [(2, .int 0), (1, .int 0), (0, .ref v0)]) hx hb dX4_thingsOfAll_3 rfl hl (by decide) rfl (fun ls hl => ?_)
  replace hm := ob hm; obtain ⟨y19, e20, hm⟩ := hm
  refine w_X4_thingsOfAll_L4 N N e20 C0 hW hS (lv_sub hl [2, 1, 0] rfl) (fun H locs ls hW hS hl => ?_)
  refine lv_iload_n hx hb dX4_thingsOfAll_39 rfl (lv_at hl 0 rfl) ?_
  cases hm
  exact r_iret C0 hr hlocks hW hS dX4_thingsOfAll_40
set_option maxHeartbeats 4000000 in
set_option maxRecDepth 100000 in
theorem w_X4_thingsOfAny_L4 {p : Program} {l : Launch} {e : Env} {s : State} {m : MethodId} {args : Array Value} {below : List Frame} {meth : Method} {c : Code} {D : va_G} {ca : Nat → ClassId} {A : Nat → Prop} {Q : State → Prop} (N : Nat) : ∀ (n : Nat) {σ : zS} {v0 : Nat} {v1 : Int32} {v2 : Int32} {y1 : Int32} {H : Heap} {locs : List Loc} {ls : Array Slot}, m_X4_thingsOfAny_L4 N n σ v0 v1 v2 = some y1 → zC p s m args c RX4 cX4_thingsOfAny 3 D ca A → zW D ca A σ H → va_S A s.heap H locs → lv_has ls 3 [(0, .ref v0), (1, .int v1), (2, .int v2)] → (∀ (H : Heap) (locs : List Loc) (ls : Array Slot), zW D ca A σ H → va_S A s.heap H locs → lv_has ls 3 [(1, .int y1)] → W p l e ({ frames := 4, cells := 0, slots := 0, locals := 86 } : Room) s m args below meth c H locs 0 0 Q (F0 m 28 ls [])) → W p l e ({ frames := 4, cells := 0, slots := 0, locals := 86 } : Room) s m args below meth c H locs 0 0 Q (F0 m 4 ls []) := by
  intro n
  induction n with
  | zero =>
    intro σ v0 v1 v2 y1 H locs ls hm C0 hW hS hl kk
    rw [m_X4_thingsOfAny_L4] at hm
    cases hm
  | succ n ih =>
    intro σ v0 v1 v2 y1 H locs ls hm C0 hW hS hl kk
    rw [m_X4_thingsOfAny_L4] at hm
    have hx := C0.1
    have hb := C0.2.1
    refine lv_iload_n hx hb dX4_thingsOfAny_4 rfl (lv_at hl 2 rfl) ?_
    refine lv_sipush (v := 1000) hx hb dX4_thingsOfAny_5 (by decide) ?_
    refine lv_icmp_ge (tgt := 28) hx hb dX4_thingsOfAny_8 (by decide) (fun h1 => ?_) (fun h1 => ?_)
    · rw [if_pos h1] at hm
      cases hm
      exact kk _ _ _ hW hS (lv_sub hl [1] rfl)
    · rw [if_neg h1] at hm
      refine lv_aload_n hx hb dX4_thingsOfAny_11 rfl (lv_at hl 0 rfl) ?_
      refine lv_iload_n hx hb dX4_thingsOfAny_12 rfl (lv_at hl 2 rfl) ?_
      replace hm := ob hm; obtain ⟨u2, e3, hm⟩ := hm
      replace hm := ob hm; obtain ⟨x5, e4, hm⟩ := hm
      refine z_calli (z_runV (As := [.int v2]) (rest := []) (ci := 4) rfl rfl C0 lv_X4_133 (b_X4_tablesWithThing e4) hW hS e3 rfl hl.1 rfl (Nat.le_of_ble_eq_true rfl) dX4_thingsOfAny_13 rfl rfl ⟨Nat.le_of_ble_eq_true rfl, Nat.le_of_ble_eq_true rfl⟩ ⟨Nat.le_refl _, Nat.le_refl _⟩) hS (fun H locs hW hS => ?_)
      replace hm := ob hm; obtain ⟨y10, e13, hm⟩ := hm
      have J22_6 : ∀ (H : Heap) (locs : List Loc) (ls : Array Slot), zW D ca A σ H → va_S A s.heap H locs → lv_has ls 3 [(0, .ref v0), (2, .int v2), (1, .int y10)] → W p l e ({ frames := 4, cells := 0, slots := 0, locals := 86 } : Room) s m args below meth c H locs 0 0 Q (F0 m 22 ls []) := by
        intro H locs ls hW hS hl
        replace hm := ob hm; obtain ⟨x11, e12, hm⟩ := hm
        refine lv_iinc (v := x11) (lv' := [(2, .int x11), (0, .ref v0), (1, .int y10)]) hx hb dX4_thingsOfAny_22 hl (k := 1) rfl (Option.some.inj e12) (by decide) rfl (fun ls hl => ?_)
        refine lv_goto (tgt := 4) hx hb dX4_thingsOfAny_25 (by decide) ?_
        exact ih hm C0 hW hS (lv_sub hl [1, 2, 0] rfl) kk
      clear hm
      have hm := e13
      clear e13
      refine lv_if_le (tgt := 22) hx hb dX4_thingsOfAny_16 (by decide) (fun h6 => ?_) (fun h6 => ?_)
      · rw [if_pos h6] at hm
        have hq1 := Option.some.inj hm; subst hq1
        exact J22_6 _ _ _ hW hS (lv_sub hl [0, 2, 1] rfl)
      · rw [if_neg h6] at hm
        replace hm := ob hm; obtain ⟨x8, e9, hm⟩ := hm
        refine lv_iinc (v := x8) (lv' := [(1, .int x8), (0, .ref v0), (2, .int v2)]) hx hb dX4_thingsOfAny_19 hl (k := 1) rfl (Option.some.inj e9) (by decide) rfl (fun ls hl => ?_)
        have hq1 := Option.some.inj hm; subst hq1
        exact J22_6 _ _ _ hW hS (lv_sub hl [1, 2, 0] rfl)
set_option maxHeartbeats 4000000 in
set_option maxRecDepth 100000 in
theorem b_X4_thingsOfAny {l : Launch} {D : va_G} {ca : Nat → ClassId} {A : Nat → Prop} {N : Nat} {σ : zS} {v0 : Nat} {r0 : Int32} (hm : m_X4_thingsOfAny N σ v0 = some r0) : Met l yX4_thingsOfAny (.code yX4_thingsOfAny cX4_thingsOfAny 3 (some .int) :: wsL_law) ({ frames := 4, cells := 0, slots := 0, locals := 86 } : Room) (va_Pc [.ref v0] (zP D ca A σ)) (zQi r0 D ca A σ) 0 0 A := by
  refine zMk (by decide +kernel) (Nat.le_of_ble_eq_true rfl) ?_
  intro p e s m below meth c C0 hr hlocks hin hW ls hl
  have hx := C0.1
  have hb := C0.2.1
  have hS : va_S A s.heap s.heap [] := va_S.rf
  have hl : lv_has ls 3 [(0, .ref v0)] := hl
  unfold m_X4_thingsOfAny at hm
  refine lv_iconst (v := 0) hx hb dX4_thingsOfAny_0 (by decide) ?_
  refine lv_istore_n (lv' := [(1, .int 0), (0, .ref v0)]) hx hb dX4_thingsOfAny_1 rfl hl (by decide) rfl (fun ls hl => ?_)
  refine lv_iconst (v := 0) hx hb dX4_thingsOfAny_2 (by decide) ?_
  refine lv_istore_n (lv' := [(2, .int 0), (1, .int 0), (0, .ref v0)]) hx hb dX4_thingsOfAny_3 rfl hl (by decide) rfl (fun ls hl => ?_)
  replace hm := ob hm; obtain ⟨y14, e15, hm⟩ := hm
  refine w_X4_thingsOfAny_L4 N N e15 C0 hW hS (lv_sub hl [2, 1, 0] rfl) (fun H locs ls hW hS hl => ?_)
  refine lv_iload_n hx hb dX4_thingsOfAny_28 rfl (lv_at hl 0 rfl) ?_
  cases hm
  exact r_iret C0 hr hlocks hW hS dX4_thingsOfAny_29
set_option maxHeartbeats 4000000 in
set_option maxRecDepth 100000 in
theorem b_X5_property {l : Launch} {D : va_G} {ca : Nat → ClassId} {A : Nat → Prop} {N : Nat} {σ : zS} {v0 : Nat} {v1 : Int32} {r0 : Int32} (hm : m_X5_property N σ v0 v1 = some r0) : Met l yX5_property (.code yX5_property cX5_property 2 (some .int) :: wsL_law) ({ frames := 4, cells := 0, slots := 0, locals := 86 } : Room) (va_Pc [.ref v0, .int v1] (zP D ca A σ)) (zQi r0 D ca A σ) 0 0 A := by
  refine zMk (by decide +kernel) (Nat.le_of_ble_eq_true rfl) ?_
  intro p e s m below meth c C0 hr hlocks hin hW ls hl
  have hx := C0.1
  have hb := C0.2.1
  have hS : va_S A s.heap s.heap [] := va_S.rf
  have hl : lv_has ls 2 [(0, .ref v0), (1, .int v1)] := hl
  unfold m_X5_property at hm
  refine lv_iload_n hx hb dX5_property_0 rfl (lv_at hl 1 rfl) ?_
  by_cases h1 : v1 = 0
  · rw [if_pos h1] at hm
    refine z_top (congrArg some h1) ?_
    refine lv_tableIn (tgt := 52) hx hb dX5_property_1 (by decide) (by decide) rfl (by decide) ?_
    refine lv_aload_n hx hb dX5_property_52 rfl (lv_at hl 0 rfl) ?_
    replace hm := ob hm; obtain ⟨a2, e3, hm⟩ := hm
    refine r_getA C0 hW fl_X5_12 e3 dX5_property_53 ?_
    replace hm := ob hm; obtain ⟨x4, e5, hm⟩ := hm
    refine r_getI C0 hW fl_X5_39 e5 dX5_property_56 ?_
    cases hm
    exact r_iret C0 hr hlocks hW hS dX5_property_59
  · rw [if_neg h1] at hm
    by_cases h6 : v1 = 1
    · rw [if_pos h6] at hm
      refine z_top (congrArg some h6) ?_
      refine lv_tableIn (tgt := 60) hx hb dX5_property_1 (by decide) (by decide) rfl (by decide) ?_
      refine lv_aload_n hx hb dX5_property_60 rfl (lv_at hl 0 rfl) ?_
      replace hm := ob hm; obtain ⟨a7, e8, hm⟩ := hm
      refine r_getA C0 hW fl_X5_12 e8 dX5_property_61 ?_
      replace hm := ob hm; obtain ⟨x9, e10, hm⟩ := hm
      refine r_getI C0 hW fl_X5_42 e10 dX5_property_64 ?_
      cases hm
      exact r_iret C0 hr hlocks hW hS dX5_property_67
    · rw [if_neg h6] at hm
      by_cases h11 : v1 = 2
      · rw [if_pos h11] at hm
        refine z_top (congrArg some h11) ?_
        refine lv_tableIn (tgt := 68) hx hb dX5_property_1 (by decide) (by decide) rfl (by decide) ?_
        refine lv_aload_n hx hb dX5_property_68 rfl (lv_at hl 0 rfl) ?_
        replace hm := ob hm; obtain ⟨a12, e13, hm⟩ := hm
        refine r_getA C0 hW fl_X5_12 e13 dX5_property_69 ?_
        replace hm := ob hm; obtain ⟨u14, e15, hm⟩ := hm
        replace hm := ob hm; obtain ⟨x17, e16, hm⟩ := hm
        refine z_calli (z_runV (As := []) (rest := []) (ci := 3) rfl rfl C0 lv_X5_77 (b_X3_told e16) hW hS e15 rfl hl.1 rfl (Nat.le_of_ble_eq_true rfl) dX5_property_72 rfl rfl ⟨Nat.le_of_ble_eq_true rfl, Nat.le_of_ble_eq_true rfl⟩ ⟨Nat.le_refl _, Nat.le_refl _⟩) hS (fun H locs hW hS => ?_)
        cases hm
        exact r_iret C0 hr hlocks hW hS dX5_property_75
      · rw [if_neg h11] at hm
        by_cases h18 : v1 = 3
        · rw [if_pos h18] at hm
          refine z_top (congrArg some h18) ?_
          refine lv_tableIn (tgt := 76) hx hb dX5_property_1 (by decide) (by decide) rfl (by decide) ?_
          refine lv_aload_n hx hb dX5_property_76 rfl (lv_at hl 0 rfl) ?_
          replace hm := ob hm; obtain ⟨x19, e20, hm⟩ := hm
          refine r_getI C0 hW fl_X5_32 e20 dX5_property_77 ?_
          cases hm
          exact r_iret C0 hr hlocks hW hS dX5_property_80
        · rw [if_neg h18] at hm
          by_cases h21 : v1 = 4
          · rw [if_pos h21] at hm
            refine z_top (congrArg some h21) ?_
            refine lv_tableIn (tgt := 81) hx hb dX5_property_1 (by decide) (by decide) rfl (by decide) ?_
            refine lv_aload_n hx hb dX5_property_81 rfl (lv_at hl 0 rfl) ?_
            replace hm := ob hm; obtain ⟨a22, e23, hm⟩ := hm
            refine r_getA C0 hW fl_X5_12 e23 dX5_property_82 ?_
            replace hm := ob hm; obtain ⟨u24, e25, hm⟩ := hm
            replace hm := ob hm; obtain ⟨x27, e26, hm⟩ := hm
            refine z_calli (z_runV (As := []) (rest := []) (ci := 3) rfl rfl C0 lv_X5_81 (b_X3_low e26) hW hS e25 rfl hl.1 rfl (Nat.le_of_ble_eq_true rfl) dX5_property_85 rfl rfl ⟨Nat.le_of_ble_eq_true rfl, Nat.le_of_ble_eq_true rfl⟩ ⟨Nat.le_refl _, Nat.le_refl _⟩) hS (fun H locs hW hS => ?_)
            cases hm
            exact r_iret C0 hr hlocks hW hS dX5_property_88
          · rw [if_neg h21] at hm
            by_cases h28 : v1 = 5
            · rw [if_pos h28] at hm
              refine z_top (congrArg some h28) ?_
              refine lv_tableIn (tgt := 89) hx hb dX5_property_1 (by decide) (by decide) rfl (by decide) ?_
              refine lv_aload_n hx hb dX5_property_89 rfl (lv_at hl 0 rfl) ?_
              replace hm := ob hm; obtain ⟨a29, e30, hm⟩ := hm
              refine r_getA C0 hW fl_X5_12 e30 dX5_property_90 ?_
              replace hm := ob hm; obtain ⟨u31, e32, hm⟩ := hm
              replace hm := ob hm; obtain ⟨x34, e33, hm⟩ := hm
              refine z_calli (z_runV (As := []) (rest := []) (ci := 3) rfl rfl C0 lv_X5_84 (b_X3_high e33) hW hS e32 rfl hl.1 rfl (Nat.le_of_ble_eq_true rfl) dX5_property_93 rfl rfl ⟨Nat.le_of_ble_eq_true rfl, Nat.le_of_ble_eq_true rfl⟩ ⟨Nat.le_refl _, Nat.le_refl _⟩) hS (fun H locs hW hS => ?_)
              cases hm
              exact r_iret C0 hr hlocks hW hS dX5_property_96
            · rw [if_neg h28] at hm
              by_cases h35 : v1 = 6
              · rw [if_pos h35] at hm
                refine z_top (congrArg some h35) ?_
                refine lv_tableIn (tgt := 97) hx hb dX5_property_1 (by decide) (by decide) rfl (by decide) ?_
                refine lv_aload_n hx hb dX5_property_97 rfl (lv_at hl 0 rfl) ?_
                replace hm := ob hm; obtain ⟨u36, e37, hm⟩ := hm
                replace hm := ob hm; obtain ⟨x39, e38, hm⟩ := hm
                refine z_calli (z_runV (As := []) (rest := []) (ci := 5) rfl rfl C0 lv_X5_87 (b_X5_error e38) hW hS e37 rfl hl.1 rfl (Nat.le_of_ble_eq_true rfl) dX5_property_98 rfl rfl ⟨Nat.le_of_ble_eq_true rfl, Nat.le_of_ble_eq_true rfl⟩ ⟨Nat.le_refl _, Nat.le_refl _⟩) hS (fun H locs hW hS => ?_)
                refine lv_sipush (v := 1000) hx hb dX5_property_101 (by decide) ?_
                refine lv_iadd hx hb dX5_property_104 ?_
                cases hm
                exact r_iret C0 hr hlocks hW hS dX5_property_105
              · rw [if_neg h35] at hm
                by_cases h40 : v1 = 7
                · rw [if_pos h40] at hm
                  refine z_top (congrArg some h40) ?_
                  refine lv_tableIn (tgt := 106) hx hb dX5_property_1 (by decide) (by decide) rfl (by decide) ?_
                  refine lv_aload_n hx hb dX5_property_106 rfl (lv_at hl 0 rfl) ?_
                  replace hm := ob hm; obtain ⟨a41, e42, hm⟩ := hm
                  refine r_getA C0 hW fl_X5_12 e42 dX5_property_107 ?_
                  replace hm := ob hm; obtain ⟨x43, e44, hm⟩ := hm
                  refine r_getI C0 hW fl_X5_90 e44 dX5_property_110 ?_
                  cases hm
                  exact r_iret C0 hr hlocks hW hS dX5_property_113
                · rw [if_neg h40] at hm
                  by_cases h45 : v1 = 8
                  · rw [if_pos h45] at hm
                    refine z_top (congrArg some h45) ?_
                    refine lv_tableIn (tgt := 114) hx hb dX5_property_1 (by decide) (by decide) rfl (by decide) ?_
                    refine lv_aload_n hx hb dX5_property_114 rfl (lv_at hl 0 rfl) ?_
                    replace hm := ob hm; obtain ⟨x46, e47, hm⟩ := hm
                    refine r_getI C0 hW fl_X5_36 e47 dX5_property_115 ?_
                    cases hm
                    exact r_iret C0 hr hlocks hW hS dX5_property_118
                  · rw [if_neg h45] at hm
                    refine lv_tableOut (tgt := 119) hx hb dX5_property_1 (by have q0 := zne (a := 0) h1 (by decide); have q1 := zne (a := 1) h6 (by decide); have q2 := zne (a := 2) h11 (by decide); have q3 := zne (a := 3) h18 (by decide); have q4 := zne (a := 4) h21 (by decide); have q5 := zne (a := 5) h28 (by decide); have q6 := zne (a := 6) h35 (by decide); have q7 := zne (a := 7) h40 (by decide); have q8 := zne (a := 8) h45 (by decide); omega) (by decide) ?_
                    refine lv_aload_n hx hb dX5_property_119 rfl (lv_at hl 0 rfl) ?_
                    replace hm := ob hm; obtain ⟨a48, e49, hm⟩ := hm
                    refine r_getA C0 hW fl_X5_12 e49 dX5_property_120 ?_
                    replace hm := ob hm; obtain ⟨u50, e51, hm⟩ := hm
                    replace hm := ob hm; obtain ⟨x53, e52, hm⟩ := hm
                    refine z_calli (z_runV (As := []) (rest := []) (ci := 3) rfl rfl C0 lv_X5_93 (b_X3_rough e52) hW hS e51 rfl hl.1 rfl (Nat.le_of_ble_eq_true rfl) dX5_property_123 rfl rfl ⟨Nat.le_of_ble_eq_true rfl, Nat.le_of_ble_eq_true rfl⟩ ⟨Nat.le_refl _, Nat.le_refl _⟩) hS (fun H locs hW hS => ?_)
                    cases hm
                    exact r_iret C0 hr hlocks hW hS dX5_property_126
set_option maxHeartbeats 4000000 in
set_option maxRecDepth 100000 in
theorem w_X5_sawToo_L4 {p : Program} {l : Launch} {e : Env} {s : State} {m : MethodId} {args : Array Value} {below : List Frame} {meth : Method} {c : Code} {D : va_G} {ca : Nat → ClassId} {A : Nat → Prop} {Q : State → Prop} (N : Nat) : ∀ (n : Nat) {σ : zS} {v0 : Nat} {v1 : Nat} {v2 : Int32} {v3 : Int32} {y2 : Int32} {H : Heap} {locs : List Loc} {ls : Array Slot}, m_X5_sawToo_L4 N n σ v0 v1 v2 v3 = some y2 → zC p s m args c RX5 cX5_sawToo 4 D ca A → zW D ca A σ H → va_S A s.heap H locs → lv_has ls 4 [(0, .ref v0), (1, .ref v1), (2, .int v2), (3, .int v3)] → (∀ (H : Heap) (locs : List Loc) (ls : Array Slot), zW D ca A σ H → va_S A s.heap H locs → lv_has ls 4 [(2, .int y2)] → W p l e ({ frames := 0, cells := 0, slots := 0, locals := 0 } : Room) s m args below meth c H locs 0 0 Q (F0 m 40 ls [])) → W p l e ({ frames := 0, cells := 0, slots := 0, locals := 0 } : Room) s m args below meth c H locs 0 0 Q (F0 m 4 ls []) := by
  intro n
  induction n with
  | zero =>
    intro σ v0 v1 v2 v3 y2 H locs ls hm C0 hW hS hl kk
    rw [m_X5_sawToo_L4] at hm
    cases hm
  | succ n ih =>
    intro σ v0 v1 v2 v3 y2 H locs ls hm C0 hW hS hl kk
    rw [m_X5_sawToo_L4] at hm
    have hx := C0.1
    have hb := C0.2.1
    refine lv_iload_n hx hb dX5_sawToo_4 rfl (lv_at hl 3 rfl) ?_
    refine lv_sipush (v := 1000) hx hb dX5_sawToo_5 (by decide) ?_
    refine lv_icmp_ge (tgt := 40) hx hb dX5_sawToo_8 (by decide) (fun h1 => ?_) (fun h1 => ?_)
    · rw [if_pos h1] at hm
      cases hm
      exact kk _ _ _ hW hS (lv_sub hl [2] rfl)
    · rw [if_neg h1] at hm
      refine lv_aload_n hx hb dX5_sawToo_11 rfl (lv_at hl 0 rfl) ?_
      replace hm := ob hm; obtain ⟨a2, e3, hm⟩ := hm
      refine r_getA C0 hW fl_X5_18 e3 dX5_sawToo_12 ?_
      refine lv_iload_n hx hb dX5_sawToo_15 rfl (lv_at hl 3 rfl) ?_
      replace hm := ob hm; obtain ⟨x4, e5, hm⟩ := hm
      refine r_aI C0 hW e5 dX5_sawToo_16 ?_
      refine lv_iconst (v := (-1)) hx hb dX5_sawToo_17 (by decide) ?_
      replace hm := ob hm; obtain ⟨y15, e18, hm⟩ := hm
      have J34_6 : ∀ (H : Heap) (locs : List Loc) (ls : Array Slot), zW D ca A σ H → va_S A s.heap H locs → lv_has ls 4 [(0, .ref v0), (1, .ref v1), (3, .int v3), (2, .int y15)] → W p l e ({ frames := 0, cells := 0, slots := 0, locals := 0 } : Room) s m args below meth c H locs 0 0 Q (F0 m 34 ls []) := by
        intro H locs ls hW hS hl
        replace hm := ob hm; obtain ⟨x16, e17, hm⟩ := hm
        refine lv_iinc (v := x16) (lv' := [(3, .int x16), (0, .ref v0), (1, .ref v1), (2, .int y15)]) hx hb dX5_sawToo_34 hl (k := 2) rfl (Option.some.inj e17) (by decide) rfl (fun ls hl => ?_)
        refine lv_goto (tgt := 4) hx hb dX5_sawToo_37 (by decide) ?_
        exact ih hm C0 hW hS (lv_sub hl [1, 2, 3, 0] rfl) kk
      clear hm
      have hm := e18
      clear e18
      refine lv_icmp_eq (tgt := 34) hx hb dX5_sawToo_18 (by decide) (fun h6 => ?_) (fun h6 => ?_)
      · rw [if_pos h6] at hm
        have hq1 := Option.some.inj hm; subst hq1
        exact J34_6 _ _ _ hW hS (lv_sub hl [0, 1, 3, 2] rfl)
      · rw [if_neg h6] at hm
        refine lv_aload_n hx hb dX5_sawToo_21 rfl (lv_at hl 1 rfl) ?_
        replace hm := ob hm; obtain ⟨a8, e9, hm⟩ := hm
        refine r_getA C0 hW fl_X5_18 e9 dX5_sawToo_22 ?_
        refine lv_iload_n hx hb dX5_sawToo_25 rfl (lv_at hl 3 rfl) ?_
        replace hm := ob hm; obtain ⟨x10, e11, hm⟩ := hm
        refine r_aI C0 hW e11 dX5_sawToo_26 ?_
        refine lv_iconst (v := (-1)) hx hb dX5_sawToo_27 (by decide) ?_
        refine lv_icmp_eq (tgt := 34) hx hb dX5_sawToo_28 (by decide) (fun h12 => ?_) (fun h12 => ?_)
        · rw [if_pos h12] at hm
          have hq1 := Option.some.inj hm; subst hq1
          exact J34_6 _ _ _ hW hS (lv_sub hl [0, 1, 3, 2] rfl)
        · rw [if_neg h12] at hm
          replace hm := ob hm; obtain ⟨x13, e14, hm⟩ := hm
          refine lv_iinc (v := x13) (lv' := [(2, .int x13), (0, .ref v0), (1, .ref v1), (3, .int v3)]) hx hb dX5_sawToo_31 hl (k := 2) rfl (Option.some.inj e14) (by decide) rfl (fun ls hl => ?_)
          have hq1 := Option.some.inj hm; subst hq1
          exact J34_6 _ _ _ hW hS (lv_sub hl [1, 2, 3, 0] rfl)
set_option maxHeartbeats 4000000 in
set_option maxRecDepth 100000 in
theorem b_X5_sawToo {l : Launch} {D : va_G} {ca : Nat → ClassId} {A : Nat → Prop} {N : Nat} {σ : zS} {v0 : Nat} {v1 : Nat} {r0 : Int32} (hm : m_X5_sawToo N σ v0 v1 = some r0) : Met l yX5_sawToo (.code yX5_sawToo cX5_sawToo 4 (some .int) :: wsL_law) ({ frames := 0, cells := 0, slots := 0, locals := 0 } : Room) (va_Pc [.ref v0, .ref v1] (zP D ca A σ)) (zQi r0 D ca A σ) 0 0 A := by
  refine zMk (by decide +kernel) (Nat.le_of_ble_eq_true rfl) ?_
  intro p e s m below meth c C0 hr hlocks hin hW ls hl
  have hx := C0.1
  have hb := C0.2.1
  have hS : va_S A s.heap s.heap [] := va_S.rf
  have hl : lv_has ls 4 [(0, .ref v0), (1, .ref v1)] := hl
  unfold m_X5_sawToo at hm
  refine lv_iconst (v := 0) hx hb dX5_sawToo_0 (by decide) ?_
  refine lv_istore_n (lv' := [(2, .int 0), (0, .ref v0), (1, .ref v1)]) hx hb dX5_sawToo_1 rfl hl (by decide) rfl (fun ls hl => ?_)
  refine lv_iconst (v := 0) hx hb dX5_sawToo_2 (by decide) ?_
  refine lv_istore_n (lv' := [(3, .int 0), (2, .int 0), (0, .ref v0), (1, .ref v1)]) hx hb dX5_sawToo_3 rfl hl (by decide) rfl (fun ls hl => ?_)
  replace hm := ob hm; obtain ⟨y19, e20, hm⟩ := hm
  refine w_X5_sawToo_L4 N N e20 C0 hW hS (lv_sub hl [2, 3, 1, 0] rfl) (fun H locs ls hW hS hl => ?_)
  refine lv_iload_n hx hb dX5_sawToo_40 rfl (lv_at hl 0 rfl) ?_
  cases hm
  exact r_iret C0 hr hlocks hW hS dX5_sawToo_41
set_option maxHeartbeats 4000000 in
set_option maxRecDepth 100000 in
theorem b_X5_sawEither {l : Launch} {D : va_G} {ca : Nat → ClassId} {A : Nat → Prop} {N : Nat} {σ : zS} {v0 : Nat} {v1 : Nat} {r0 : Int32} (hm : m_X5_sawEither N σ v0 v1 = some r0) : Met l yX5_sawEither (.code yX5_sawEither cX5_sawEither 2 (some .int) :: wsL_law) ({ frames := 1, cells := 0, slots := 0, locals := 23 } : Room) (va_Pc [.ref v0, .ref v1] (zP D ca A σ)) (zQi r0 D ca A σ) 0 0 A := by
  refine zMk (by decide +kernel) (Nat.le_of_ble_eq_true rfl) ?_
  intro p e s m below meth c C0 hr hlocks hin hW ls hl
  have hx := C0.1
  have hb := C0.2.1
  have hS : va_S A s.heap s.heap [] := va_S.rf
  have hl : lv_has ls 2 [(0, .ref v0), (1, .ref v1)] := hl
  unfold m_X5_sawEither at hm
  refine lv_aload_n hx hb dX5_sawEither_0 rfl (lv_at hl 0 rfl) ?_
  replace hm := ob hm; obtain ⟨x1, e2, hm⟩ := hm
  refine r_getI C0 hW fl_X5_32 e2 dX5_sawEither_1 ?_
  refine lv_aload_n hx hb dX5_sawEither_4 rfl (lv_at hl 1 rfl) ?_
  replace hm := ob hm; obtain ⟨x3, e4, hm⟩ := hm
  refine r_getI C0 hW fl_X5_32 e4 dX5_sawEither_5 ?_
  refine lv_iadd hx hb dX5_sawEither_8 ?_
  refine lv_aload_n hx hb dX5_sawEither_9 rfl (lv_at hl 0 rfl) ?_
  refine lv_aload_n hx hb dX5_sawEither_10 rfl (lv_at hl 1 rfl) ?_
  replace hm := ob hm; obtain ⟨u5, e6, hm⟩ := hm
  replace hm := ob hm; obtain ⟨x8, e7, hm⟩ := hm
  refine z_calli (z_runV (As := [.ref v1]) (rest := [.int (x1 + x3)]) (ci := 5) rfl rfl C0 lv_X5_73 (b_X5_sawToo e7) hW hS e6 rfl hl.1 rfl (Nat.le_of_ble_eq_true rfl) dX5_sawEither_11 rfl rfl ⟨Nat.le_of_ble_eq_true rfl, Nat.le_of_ble_eq_true rfl⟩ ⟨Nat.le_refl _, Nat.le_refl _⟩) hS (fun H locs hW hS => ?_)
  refine lv_isub hx hb dX5_sawEither_14 ?_
  cases hm
  exact r_iret C0 hr hlocks hW hS dX5_sawEither_15
set_option maxHeartbeats 4000000 in
set_option maxRecDepth 100000 in
theorem w_X5_thingAt_L4 {p : Program} {l : Launch} {e : Env} {s : State} {m : MethodId} {args : Array Value} {below : List Frame} {meth : Method} {c : Code} {D : va_G} {ca : Nat → ClassId} {A : Nat → Prop} {Q : State → Prop} (N : Nat) : ∀ (n : Nat) {σ : zS} {v0 : Nat} {v1 : Int32} {v2 : Int32} {v3 : Int32} {res : (Int32) ⊕ (Unit)} {H : Heap} {locs : List Loc} {ls : Array Slot}, m_X5_thingAt_L4 N n σ v0 v1 v2 v3 = some res → zC p s m args c RX5 cX5_thingAt 4 D ca A → zW D ca A σ H → va_S A s.heap H locs → lv_has ls 4 [(0, .ref v0), (1, .int v1), (2, .int v2), (3, .int v3)] → (∀ (r : Int32), res = .inl r → ∀ (pc : Nat) (H : Heap) (locs : List Loc) (ls : Array Slot), decode cX5_thingAt pc = .ok (.ireturn, 1) → zW D ca A σ H → va_S A s.heap H locs → W p l e ({ frames := 0, cells := 0, slots := 0, locals := 0 } : Room) s m args below meth c H locs 0 0 Q (F0 m pc ls [.int r])) → (res = .inr () → ∀ (H : Heap) (locs : List Loc) (ls : Array Slot), zW D ca A σ H → va_S A s.heap H locs → lv_has ls 4 [] → W p l e ({ frames := 0, cells := 0, slots := 0, locals := 0 } : Room) s m args below meth c H locs 0 0 Q (F0 m 37 ls [])) → W p l e ({ frames := 0, cells := 0, slots := 0, locals := 0 } : Room) s m args below meth c H locs 0 0 Q (F0 m 4 ls []) := by
  intro n
  induction n with
  | zero =>
    intro σ v0 v1 v2 v3 res H locs ls hm C0 hW hS hl kr kk
    rw [m_X5_thingAt_L4] at hm
    cases hm
  | succ n ih =>
    intro σ v0 v1 v2 v3 res H locs ls hm C0 hW hS hl kr kk
    rw [m_X5_thingAt_L4] at hm
    have hx := C0.1
    have hb := C0.2.1
    refine lv_iload_n hx hb dX5_thingAt_4 rfl (lv_at hl 3 rfl) ?_
    refine lv_sipush (v := 1000) hx hb dX5_thingAt_5 (by decide) ?_
    refine lv_icmp_ge (tgt := 37) hx hb dX5_thingAt_8 (by decide) (fun h1 => ?_) (fun h1 => ?_)
    · rw [if_pos h1] at hm
      cases hm
      exact kk  rfl _ _ _ hW hS (lv_sub hl [] rfl)
    · rw [if_neg h1] at hm
      refine lv_aload_n hx hb dX5_thingAt_11 rfl (lv_at hl 0 rfl) ?_
      replace hm := ob hm; obtain ⟨a2, e3, hm⟩ := hm
      refine r_getA C0 hW fl_X5_18 e3 dX5_thingAt_12 ?_
      refine lv_iload_n hx hb dX5_thingAt_15 rfl (lv_at hl 3 rfl) ?_
      replace hm := ob hm; obtain ⟨x4, e5, hm⟩ := hm
      refine r_aI C0 hW e5 dX5_thingAt_16 ?_
      refine lv_iconst (v := (-1)) hx hb dX5_thingAt_17 (by decide) ?_
      refine lv_icmp_eq (tgt := 31) hx hb dX5_thingAt_18 (by decide) (fun h6 => ?_) (fun h6 => ?_)
      · rw [if_pos h6] at hm
        replace hm := ob hm; obtain ⟨x7, e8, hm⟩ := hm
        refine lv_iinc (v := x7) (lv' := [(3, .int x7), (0, .ref v0), (1, .int v1), (2, .int v2)]) hx hb dX5_thingAt_31 hl (k := 3) rfl (Option.some.inj e8) (by decide) rfl (fun ls hl => ?_)
        refine lv_goto (tgt := 4) hx hb dX5_thingAt_34 (by decide) ?_
        exact ih hm C0 hW hS (lv_sub hl [1, 2, 3, 0] rfl) kr kk
      · rw [if_neg h6] at hm
        refine lv_iload_n hx hb dX5_thingAt_21 rfl (lv_at hl 2 rfl) ?_
        refine lv_iload_n hx hb dX5_thingAt_22 rfl (lv_at hl 1 rfl) ?_
        refine lv_icmp_ne (tgt := 28) hx hb dX5_thingAt_23 (by decide) (fun h9 => ?_) (fun h9 => ?_)
        · rw [if_neg h9] at hm
          replace hm := ob hm; obtain ⟨x10, e11, hm⟩ := hm
          refine lv_iinc (v := x10) (lv' := [(2, .int x10), (0, .ref v0), (1, .int v1), (3, .int v3)]) hx hb dX5_thingAt_28 hl (k := 2) rfl (Option.some.inj e11) (by decide) rfl (fun ls hl => ?_)
          replace hm := ob hm; obtain ⟨x12, e13, hm⟩ := hm
          refine lv_iinc (v := x12) (lv' := [(3, .int x12), (2, .int x10), (0, .ref v0), (1, .int v1)]) hx hb dX5_thingAt_31 hl (k := 3) rfl (Option.some.inj e13) (by decide) rfl (fun ls hl => ?_)
          refine lv_goto (tgt := 4) hx hb dX5_thingAt_34 (by decide) ?_
          exact ih hm C0 hW hS (lv_sub hl [2, 3, 1, 0] rfl) kr kk
        · rw [if_pos h9] at hm
          refine lv_iload_n hx hb dX5_thingAt_26 rfl (lv_at hl 3 rfl) ?_
          cases hm
          exact kr _ rfl _ _ _ _ dX5_thingAt_27 hW hS
set_option maxHeartbeats 4000000 in
set_option maxRecDepth 100000 in
theorem b_X5_thingAt {l : Launch} {D : va_G} {ca : Nat → ClassId} {A : Nat → Prop} {N : Nat} {σ : zS} {v0 : Nat} {v1 : Int32} {r0 : Int32} (hm : m_X5_thingAt N σ v0 v1 = some r0) : Met l yX5_thingAt (.code yX5_thingAt cX5_thingAt 4 (some .int) :: wsL_law) ({ frames := 0, cells := 0, slots := 0, locals := 0 } : Room) (va_Pc [.ref v0, .int v1] (zP D ca A σ)) (zQi r0 D ca A σ) 0 0 A := by
  refine zMk (by decide +kernel) (Nat.le_of_ble_eq_true rfl) ?_
  intro p e s m below meth c C0 hr hlocks hin hW ls hl
  have hx := C0.1
  have hb := C0.2.1
  have hS : va_S A s.heap s.heap [] := va_S.rf
  have hl : lv_has ls 4 [(0, .ref v0), (1, .int v1)] := hl
  unfold m_X5_thingAt at hm
  refine lv_iconst (v := 0) hx hb dX5_thingAt_0 (by decide) ?_
  refine lv_istore_n (lv' := [(2, .int 0), (0, .ref v0), (1, .int v1)]) hx hb dX5_thingAt_1 rfl hl (by decide) rfl (fun ls hl => ?_)
  refine lv_iconst (v := 0) hx hb dX5_thingAt_2 (by decide) ?_
  refine lv_istore_n (lv' := [(3, .int 0), (2, .int 0), (0, .ref v0), (1, .int v1)]) hx hb dX5_thingAt_3 rfl hl (by decide) rfl (fun ls hl => ?_)
  replace hm := obs hm; rcases hm with ⟨r9, e14, hm⟩ | ⟨z9, e14, hm⟩
  · cases hm
    refine w_X5_thingAt_L4 N N e14 C0 hW hS (lv_sub hl [2, 3, 1, 0] rfl) (fun _ hq pc2 H locs ls d2 hW hS => ?_) (fun  hq => by cases hq)
    cases hq
    exact r_iret C0 hr hlocks hW hS d2
  · refine w_X5_thingAt_L4 N N e14 C0 hW hS (lv_sub hl [2, 3, 1, 0] rfl) (fun _ hq => by cases hq) (fun  hq H locs ls hW hS hl => ?_)
    cases hq
    refine lv_iconst (v := (-1)) hx hb dX5_thingAt_37 (by decide) ?_
    cases hm
    exact r_iret C0 hr hlocks hW hS dX5_thingAt_38
set_option maxHeartbeats 4000000 in
set_option maxRecDepth 100000 in
theorem b_X6_append {l : Launch} {D : va_G} {ca : Nat → ClassId} {A : Nat → Prop} {N : Nat} {σ : zS} {v0 : Nat} {v1 : Int32} {r0 : Int32} {σ' : zS} (hm : m_X6_append N σ v0 v1 = some (r0, σ')) : Met l yX6_append (.code yX6_append cX6_append 2 (some .boolean) :: wsL_law) ({ frames := 0, cells := 0, slots := 0, locals := 0 } : Room) (va_Pc [.ref v0, .int v1] (zP D ca A σ)) (zQi r0 D ca A σ') 0 0 A := by
  refine zMk (by decide +kernel) (Nat.le_of_ble_eq_true rfl) ?_
  intro p e s m below meth c C0 hr hlocks hin hW ls hl
  have hx := C0.1
  have hb := C0.2.1
  have hS : va_S A s.heap s.heap [] := va_S.rf
  have hl : lv_has ls 2 [(0, .ref v0), (1, .int v1)] := hl
  unfold m_X6_append at hm
  refine lv_aload_n hx hb dX6_append_0 rfl (lv_at hl 0 rfl) ?_
  replace hm := ob hm; obtain ⟨x1, e2, hm⟩ := hm
  refine r_getI C0 hW fl_X6_15 e2 dX6_append_1 ?_
  refine lv_if_lt (tgt := 16) hx hb dX6_append_4 (by decide) (fun h3 => ?_) (fun h3 => ?_)
  · rw [if_pos h3] at hm
    refine lv_iconst (v := 0) hx hb dX6_append_16 (by decide) ?_
    obtain ⟨hq8, hq9⟩ := Prod.mk.inj (Option.some.inj hm); subst hq8; subst hq9
    exact r_zret C0 hr rfl hlocks hW hS dX6_append_17
  · rw [if_neg h3] at hm
    refine lv_aload_n hx hb dX6_append_7 rfl (lv_at hl 0 rfl) ?_
    replace hm := ob hm; obtain ⟨x4, e5, hm⟩ := hm
    refine r_getI C0 hW fl_X6_15 e5 dX6_append_8 ?_
    refine lv_bipush (v := 80) hx hb dX6_append_11 (by decide) ?_
    refine lv_icmp_lt (tgt := 18) hx hb dX6_append_13 (by decide) (fun h6 => ?_) (fun h6 => ?_)
    · rw [if_pos h6] at hm
      refine lv_aload_n hx hb dX6_append_18 rfl (lv_at hl 0 rfl) ?_
      replace hm := ob hm; obtain ⟨a7, e8, hm⟩ := hm
      refine r_getA C0 hW fl_X6_9 e8 dX6_append_19 ?_
      refine lv_aload_n hx hb dX6_append_22 rfl (lv_at hl 0 rfl) ?_
      replace hm := ob hm; obtain ⟨x9, e10, hm⟩ := hm
      refine r_getI C0 hW fl_X6_15 e10 dX6_append_23 ?_
      refine lv_iload_n hx hb dX6_append_26 rfl (lv_at hl 1 rfl) ?_
      replace hm := ob hm; obtain ⟨x13, e14, hm⟩ := hm
      replace hm := ob hm; obtain ⟨σ11, e12, hm⟩ := hm
      refine r_uC C0 hW hS e14 e12 dX6_append_27 (fun H locs hW hS => ?_)
      refine lv_aload_n hx hb dX6_append_28 rfl (lv_at hl 0 rfl) ?_
      refine lv_dup hx hb dX6_append_29 rfl ?_
      replace hm := ob hm; obtain ⟨x15, e16, hm⟩ := hm
      refine r_getI C0 hW fl_X6_15 e16 dX6_append_30 ?_
      refine lv_iconst (v := 1) hx hb dX6_append_33 (by decide) ?_
      refine lv_iadd hx hb dX6_append_34 ?_
      replace hm := ob hm; obtain ⟨σ17, e18, hm⟩ := hm
      refine r_putI C0 hW hS fl_X6_15 e18 dX6_append_35 (fun H locs hW hS => ?_)
      refine lv_iconst (v := 1) hx hb dX6_append_38 (by decide) ?_
      obtain ⟨hq8, hq9⟩ := Prod.mk.inj (Option.some.inj hm); subst hq8; subst hq9
      exact r_zret C0 hr rfl hlocks hW hS dX6_append_39
    · rw [if_neg h6] at hm
      refine lv_iconst (v := 0) hx hb dX6_append_16 (by decide) ?_
      obtain ⟨hq8, hq9⟩ := Prod.mk.inj (Option.some.inj hm); subst hq8; subst hq9
      exact r_zret C0 hr rfl hlocks hW hS dX6_append_17
set_option maxHeartbeats 4000000 in
set_option maxRecDepth 100000 in
theorem b_X6_empty {l : Launch} {D : va_G} {ca : Nat → ClassId} {A : Nat → Prop} {N : Nat} {σ : zS} {v0 : Nat} {r0 : Int32} {σ' : zS} (hm : m_X6_empty N σ v0 = some (r0, σ')) : Met l yX6_empty (.code yX6_empty cX6_empty 2 (some .int) :: wsL_law) ({ frames := 0, cells := 0, slots := 0, locals := 0 } : Room) (va_Pc [.ref v0] (zP D ca A σ)) (zQi r0 D ca A σ') 0 0 A := by
  refine zMk (by decide +kernel) (Nat.le_of_ble_eq_true rfl) ?_
  intro p e s m below meth c C0 hr hlocks hin hW ls hl
  have hx := C0.1
  have hb := C0.2.1
  have hS : va_S A s.heap s.heap [] := va_S.rf
  have hl : lv_has ls 2 [(0, .ref v0)] := hl
  unfold m_X6_empty at hm
  refine lv_aload_n hx hb dX6_empty_0 rfl (lv_at hl 0 rfl) ?_
  replace hm := ob hm; obtain ⟨x1, e2, hm⟩ := hm
  refine r_getI C0 hW fl_X6_15 e2 dX6_empty_1 ?_
  refine lv_istore_n (lv' := [(1, .int x1), (0, .ref v0)]) hx hb dX6_empty_4 rfl hl (by decide) rfl (fun ls hl => ?_)
  refine lv_aload_n hx hb dX6_empty_5 rfl (lv_at hl 1 rfl) ?_
  refine lv_iconst (v := 0) hx hb dX6_empty_6 (by decide) ?_
  replace hm := ob hm; obtain ⟨σ3, e4, hm⟩ := hm
  refine r_putI C0 hW hS fl_X6_15 e4 dX6_empty_7 (fun H locs hW hS => ?_)
  refine lv_iload_n hx hb dX6_empty_10 rfl (lv_at hl 0 rfl) ?_
  obtain ⟨hq8, hq9⟩ := Prod.mk.inj (Option.some.inj hm); subst hq8; subst hq9
  exact r_iret C0 hr hlocks hW hS dX6_empty_11
set_option maxHeartbeats 4000000 in
set_option maxRecDepth 100000 in
theorem b_X7_faultOfNext {l : Launch} {D : va_G} {ca : Nat → ClassId} {A : Nat → Prop} {N : Nat} {σ : zS} {v0 : Nat} {v1 : Nat} {r0 : Int32} {σ' : zS} (hm : m_X7_faultOfNext N σ v0 v1 = some (r0, σ')) : Met l yX7_faultOfNext (.code yX7_faultOfNext cX7_faultOfNext 2 (some .int) :: wsL_law) ({ frames := 3, cells := 0, slots := 0, locals := 72 } : Room) (va_Pc [.ref v0, .ref v1] (zP D ca A σ)) (zQi r0 D ca A σ') 0 0 A := by
  refine zMk (by decide +kernel) (Nat.le_of_ble_eq_true rfl) ?_
  intro p e s m below meth c C0 hr hlocks hin hW ls hl
  have hx := C0.1
  have hb := C0.2.1
  have hS : va_S A s.heap s.heap [] := va_S.rf
  have hl : lv_has ls 2 [(0, .ref v0), (1, .ref v1)] := hl
  unfold m_X7_faultOfNext at hm
  refine lv_aload_n hx hb dX7_faultOfNext_0 rfl (lv_at hl 0 rfl) ?_
  replace hm := ob hm; obtain ⟨a1, e2, hm⟩ := hm
  refine r_getA C0 hW fl_X7_21 e2 dX7_faultOfNext_1 ?_
  refine lv_aload_n hx hb dX7_faultOfNext_4 rfl (lv_at hl 1 rfl) ?_
  refine lv_aload_n hx hb dX7_faultOfNext_5 rfl (lv_at hl 0 rfl) ?_
  replace hm := ob hm; obtain ⟨x3, e4, hm⟩ := hm
  refine r_getI C0 hW fl_X7_33 e4 dX7_faultOfNext_6 ?_
  replace hm := ob hm; obtain ⟨u5, e6, hm⟩ := hm
  replace hm := o2 hm; obtain ⟨x9, σ8, e7, hm⟩ := hm
  refine z_calli (z_runV (As := [.ref v1, .int x3]) (rest := []) (ci := 0) rfl rfl C0 lv_X7_58 (b_X0_read e7) hW hS e6 rfl hl.1 rfl (Nat.le_of_ble_eq_true rfl) dX7_faultOfNext_9 rfl rfl ⟨Nat.le_of_ble_eq_true rfl, Nat.le_of_ble_eq_true rfl⟩ ⟨Nat.le_refl _, Nat.le_refl _⟩) hS (fun H locs hW hS => ?_)
  refine lv_if_ne (tgt := 17) hx hb dX7_faultOfNext_12 (by decide) (fun h10 => ?_) (fun h10 => ?_)
  · rw [if_neg h10] at hm
    refine lv_aload_n hx hb dX7_faultOfNext_17 rfl (lv_at hl 0 rfl) ?_
    refine lv_aload_n hx hb dX7_faultOfNext_18 rfl (lv_at hl 0 rfl) ?_
    replace hm := ob hm; obtain ⟨a11, e12, hm⟩ := hm
    refine r_getA C0 hW fl_X7_12 e12 dX7_faultOfNext_19 ?_
    refine lv_aload_n hx hb dX7_faultOfNext_22 rfl (lv_at hl 0 rfl) ?_
    replace hm := ob hm; obtain ⟨a13, e14, hm⟩ := hm
    refine r_getA C0 hW fl_X7_21 e14 dX7_faultOfNext_23 ?_
    replace hm := ob hm; obtain ⟨u15, e16, hm⟩ := hm
    replace hm := ob hm; obtain ⟨x18, e17, hm⟩ := hm
    refine z_calli (z_runV (As := [.ref a13]) (rest := [.ref v0]) (ci := 4) rfl rfl C0 lv_X7_62 (b_X4_refusalOf e17) hW hS e16 rfl hl.1 rfl (Nat.le_of_ble_eq_true rfl) dX7_faultOfNext_26 rfl rfl ⟨Nat.le_of_ble_eq_true rfl, Nat.le_of_ble_eq_true rfl⟩ ⟨Nat.le_refl _, Nat.le_refl _⟩) hS (fun H locs hW hS => ?_)
    replace hm := ob hm; obtain ⟨σ19, e20, hm⟩ := hm
    refine r_putI C0 hW hS fl_X7_39 e20 dX7_faultOfNext_29 (fun H locs hW hS => ?_)
    refine lv_aload_n hx hb dX7_faultOfNext_32 rfl (lv_at hl 0 rfl) ?_
    replace hm := ob hm; obtain ⟨x21, e22, hm⟩ := hm
    refine r_getI C0 hW fl_X7_39 e22 dX7_faultOfNext_33 ?_
    refine lv_if_ge (tgt := 43) hx hb dX7_faultOfNext_36 (by decide) (fun h23 => ?_) (fun h23 => ?_)
    · rw [if_pos h23] at hm
      refine lv_iconst (v := 0) hx hb dX7_faultOfNext_43 (by decide) ?_
      obtain ⟨hq8, hq9⟩ := Prod.mk.inj (Option.some.inj hm); subst hq8; subst hq9
      exact r_iret C0 hr hlocks hW hS dX7_faultOfNext_44
    · rw [if_neg h23] at hm
      refine lv_iconst (v := 2) hx hb dX7_faultOfNext_39 (by decide) ?_
      refine lv_goto (tgt := 44) hx hb dX7_faultOfNext_40 (by decide) ?_
      obtain ⟨hq8, hq9⟩ := Prod.mk.inj (Option.some.inj hm); subst hq8; subst hq9
      exact r_iret C0 hr hlocks hW hS dX7_faultOfNext_44
  · rw [if_pos h10] at hm
    refine lv_iconst (v := 1) hx hb dX7_faultOfNext_15 (by decide) ?_
    obtain ⟨hq8, hq9⟩ := Prod.mk.inj (Option.some.inj hm); subst hq8; subst hq9
    exact r_iret C0 hr hlocks hW hS dX7_faultOfNext_16
