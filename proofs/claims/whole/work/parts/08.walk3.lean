set_option maxHeartbeats 4000000 in
set_option maxRecDepth 100000 in
theorem w_X7_run_L30 {p : Program} {l : Launch} {e : Env} {s : State} {m : MethodId} {args : Array Value} {below : List Frame} {meth : Method} {c : Code} {D : va_G} {ca : Nat → ClassId} {A : Nat → Prop} {Q : State → Prop} (N : Nat) : ∀ (n : Nat) {σ : zS} {v0 : Nat} {v1 : Nat} {v3 : Int32} {σ' : zS} {H : Heap} {locs : List Loc} {ls : Array Slot}, m_X7_run_L30 N n σ v0 v1 v3 = some σ' → zC p s m args c RX7 cX7_run 4 D ca A → zW D ca A σ H → va_S A s.heap H locs → lv_has ls 4 [(0, .ref v0), (1, .ref v1), (3, .int v3)] → (∀ (H : Heap) (locs : List Loc) (ls : Array Slot), zW D ca A σ' H → va_S A s.heap H locs → lv_has ls 4 [] → W p l e ({ frames := 6, cells := 0, slots := 0, locals := 134 } : Room) s m args below meth c H locs 0 0 Q (F0 m 109 ls [])) → W p l e ({ frames := 6, cells := 0, slots := 0, locals := 134 } : Room) s m args below meth c H locs 0 0 Q (F0 m 30 ls []) := by
  intro n
  induction n with
  | zero =>
    intro σ v0 v1 v3 σ' H locs ls hm C0 hW hS hl kk
    rw [m_X7_run_L30] at hm
    cases hm
  | succ n ih =>
    intro σ v0 v1 v3 σ' H locs ls hm C0 hW hS hl kk
    rw [m_X7_run_L30] at hm
    have hx := C0.1
    have hb := C0.2.1
    refine lv_iload_n hx hb dX7_run_30 rfl (lv_at hl 2 rfl) ?_
    refine lv_bipush (v := 80) hx hb dX7_run_31 (by decide) ?_
    refine lv_icmp_ge (tgt := 109) hx hb dX7_run_33 (by decide) (fun h15 => ?_) (fun h15 => ?_)
    · rw [if_pos h15] at hm
      cases hm
      exact kk _ _ _ hW hS (lv_sub hl [] rfl)
    · rw [if_neg h15] at hm
      refine lv_aload_n hx hb dX7_run_36 rfl (lv_at hl 0 rfl) ?_
      replace hm := ob hm; obtain ⟨x16, e17, hm⟩ := hm
      refine r_getI C0 hW fl_X7_33 e17 dX7_run_37 ?_
      refine lv_aload_n hx hb dX7_run_40 rfl (lv_at hl 1 rfl) ?_
      replace hm := ob hm; obtain ⟨x18, e19, hm⟩ := hm
      refine r_getI C0 hW fl_X7_42 e19 dX7_run_41 ?_
      refine lv_icmp_ge (tgt := 109) hx hb dX7_run_44 (by decide) (fun h20 => ?_) (fun h20 => ?_)
      · rw [if_pos h20] at hm
        cases hm
        exact kk _ _ _ hW hS (lv_sub hl [] rfl)
      · rw [if_neg h20] at hm
        refine lv_aload_n hx hb dX7_run_47 rfl (lv_at hl 0 rfl) ?_
        replace hm := ob hm; obtain ⟨x21, e22, hm⟩ := hm
        refine r_getI C0 hW fl_X7_36 e22 dX7_run_48 ?_
        refine lv_if_ne (tgt := 109) hx hb dX7_run_51 (by decide) (fun h23 => ?_) (fun h23 => ?_)
        · rw [if_neg h23] at hm
          cases hm
          exact kk _ _ _ hW hS (lv_sub hl [] rfl)
        · rw [if_pos h23] at hm
          refine lv_aload_n hx hb dX7_run_54 rfl (lv_at hl 0 rfl) ?_
          refine lv_aload_n hx hb dX7_run_55 rfl (lv_at hl 0 rfl) ?_
          refine lv_aload_n hx hb dX7_run_56 rfl (lv_at hl 1 rfl) ?_
          replace hm := ob hm; obtain ⟨u24, e25, hm⟩ := hm
          replace hm := o2 hm; obtain ⟨x28, σ27, e26, hm⟩ := hm
          refine z_calli (z_runV (As := [.ref v1]) (rest := [.ref v0]) (ci := 7) rfl rfl C0 lv_X7_47 (b_X7_faultOfNext e26) hW hS e25 rfl hl.1 rfl (Nat.le_of_ble_eq_true rfl) dX7_run_57 rfl rfl ⟨Nat.le_of_ble_eq_true rfl, Nat.le_of_ble_eq_true rfl⟩ ⟨Nat.le_refl _, Nat.le_refl _⟩) hS (fun H locs hW hS => ?_)
          replace hm := ob hm; obtain ⟨σ29, e30, hm⟩ := hm
          refine r_putI C0 hW hS fl_X7_36 e30 dX7_run_60 (fun H locs hW hS => ?_)
          refine lv_aload_n hx hb dX7_run_63 rfl (lv_at hl 0 rfl) ?_
          replace hm := ob hm; obtain ⟨x31, e32, hm⟩ := hm
          refine r_getI C0 hW fl_X7_36 e32 dX7_run_64 ?_
          replace hm := ob hm; obtain ⟨σ54, e57, hm⟩ := hm
          have J103_33 : ∀ (H : Heap) (locs : List Loc) (ls : Array Slot), zW D ca A σ54 H → va_S A s.heap H locs → lv_has ls 4 [(0, .ref v0), (1, .ref v1), (3, .int v3)] → W p l e ({ frames := 6, cells := 0, slots := 0, locals := 134 } : Room) s m args below meth c H locs 0 0 Q (F0 m 103 ls []) := by
            intro H locs ls hW hS hl
            replace hm := ob hm; obtain ⟨x55, e56, hm⟩ := hm
            refine lv_iinc (v := x55) (lv' := [(3, .int x55), (0, .ref v0), (1, .ref v1)]) hx hb dX7_run_103 hl (k := 2) rfl (Option.some.inj e56) (by decide) rfl (fun ls hl => ?_)
            refine lv_goto (tgt := 30) hx hb dX7_run_106 (by decide) ?_
            exact ih hm C0 hW hS (lv_sub hl [1, 2, 0] rfl) kk
          clear hm
          have hm := e57
          clear e57
          refine lv_if_ne (tgt := 103) hx hb dX7_run_67 (by decide) (fun h33 => ?_) (fun h33 => ?_)
          · rw [if_neg h33] at hm
            have hq1 := Option.some.inj hm; subst hq1
            exact J103_33 _ _ _ hW hS (lv_sub hl [0, 1, 2] rfl)
          · rw [if_pos h33] at hm
            refine lv_aload_n hx hb dX7_run_70 rfl (lv_at hl 0 rfl) ?_
            replace hm := ob hm; obtain ⟨a35, e36, hm⟩ := hm
            refine r_getA C0 hW fl_X7_12 e36 dX7_run_71 ?_
            refine lv_aload_n hx hb dX7_run_74 rfl (lv_at hl 0 rfl) ?_
            replace hm := ob hm; obtain ⟨a37, e38, hm⟩ := hm
            refine r_getA C0 hW fl_X7_21 e38 dX7_run_75 ?_
            replace hm := ob hm; obtain ⟨u39, e40, hm⟩ := hm
            replace hm := o2 hm; obtain ⟨x43, σ42, e41, hm⟩ := hm
            refine z_calli (z_runV (As := [.ref a37]) (rest := []) (ci := 4) rfl rfl C0 lv_X7_51 (b_X4_carryOut e41) hW hS e40 rfl hl.1 rfl (Nat.le_of_ble_eq_true rfl) dX7_run_78 rfl rfl ⟨Nat.le_of_ble_eq_true rfl, Nat.le_of_ble_eq_true rfl⟩ ⟨Nat.le_refl _, Nat.le_refl _⟩) hS (fun H locs hW hS => ?_)
            refine lv_pop hx hb dX7_run_81 rfl ?_
            refine lv_aload_n hx hb dX7_run_82 rfl (lv_at hl 0 rfl) ?_
            refine lv_dup hx hb dX7_run_83 rfl ?_
            replace hm := ob hm; obtain ⟨x44, e45, hm⟩ := hm
            refine r_getI C0 hW fl_X7_29 e45 dX7_run_84 ?_
            refine lv_iconst (v := 1) hx hb dX7_run_87 (by decide) ?_
            refine lv_iadd hx hb dX7_run_88 ?_
            replace hm := ob hm; obtain ⟨σ46, e47, hm⟩ := hm
            refine r_putI C0 hW hS fl_X7_29 e47 dX7_run_89 (fun H locs hW hS => ?_)
            refine lv_aload_n hx hb dX7_run_92 rfl (lv_at hl 0 rfl) ?_
            refine lv_aload_n hx hb dX7_run_93 rfl (lv_at hl 0 rfl) ?_
            replace hm := ob hm; obtain ⟨a48, e49, hm⟩ := hm
            refine r_getA C0 hW fl_X7_21 e49 dX7_run_94 ?_
            replace hm := ob hm; obtain ⟨x50, e51, hm⟩ := hm
            refine r_getI C0 hW fl_X7_55 e51 dX7_run_97 ?_
            replace hm := ob hm; obtain ⟨σ52, e53, hm⟩ := hm
            refine r_putI C0 hW hS fl_X7_33 e53 dX7_run_100 (fun H locs hW hS => ?_)
            have hq1 := Option.some.inj hm; subst hq1
            exact J103_33 _ _ _ hW hS (lv_sub hl [0, 1, 2] rfl)
set_option maxHeartbeats 4000000 in
set_option maxRecDepth 100000 in
theorem b_X7_run {l : Launch} {D : va_G} {ca : Nat → ClassId} {A : Nat → Prop} {N : Nat} {σ : zS} {v0 : Nat} {v1 : Nat} {v2 : Nat} {σ' : zS} (hm : m_X7_run N σ v0 v1 v2 = some σ') : Met l yX7_run (.code yX7_run cX7_run 4 none :: wsL_law) ({ frames := 6, cells := 0, slots := 0, locals := 134 } : Room) (va_Pc [.ref v0, .ref v1, .ref v2] (zP D ca A σ)) (zQv D ca A σ') 0 0 A := by
  refine zMk (by decide +kernel) (Nat.le_of_ble_eq_true rfl) ?_
  intro p e s m below meth c C0 hr hlocks hin hW ls hl
  have hx := C0.1
  have hb := C0.2.1
  have hS : va_S A s.heap s.heap [] := va_S.rf
  have hl : lv_has ls 4 [(0, .ref v0), (1, .ref v1), (2, .ref v2)] := hl
  unfold m_X7_run at hm
  refine lv_aload_n hx hb dX7_run_0 rfl (lv_at hl 0 rfl) ?_
  replace hm := ob hm; obtain ⟨a1, e2, hm⟩ := hm
  refine r_getA C0 hW fl_X7_12 e2 dX7_run_1 ?_
  refine lv_aload_n hx hb dX7_run_4 rfl (lv_at hl 2 rfl) ?_
  replace hm := ob hm; obtain ⟨u3, e4, hm⟩ := hm
  replace hm := ob hm; obtain ⟨σ6, e5, hm⟩ := hm
  refine z_callv (z_runV (As := [.ref v2]) (rest := []) (ci := 4) rfl rfl C0 lv_X7_25 (b_X4_copyFrom e5) hW hS e4 rfl hl.1 rfl (Nat.le_of_ble_eq_true rfl) dX7_run_5 rfl rfl ⟨Nat.le_of_ble_eq_true rfl, Nat.le_of_ble_eq_true rfl⟩ ⟨Nat.le_refl _, Nat.le_refl _⟩) hS (fun H locs hW hS => ?_)
  refine lv_aload_n hx hb dX7_run_8 rfl (lv_at hl 0 rfl) ?_
  refine lv_iconst (v := 0) hx hb dX7_run_9 (by decide) ?_
  replace hm := ob hm; obtain ⟨σ7, e8, hm⟩ := hm
  refine r_putI C0 hW hS fl_X7_29 e8 dX7_run_10 (fun H locs hW hS => ?_)
  refine lv_aload_n hx hb dX7_run_13 rfl (lv_at hl 0 rfl) ?_
  refine lv_iconst (v := 0) hx hb dX7_run_14 (by decide) ?_
  replace hm := ob hm; obtain ⟨σ9, e10, hm⟩ := hm
  refine r_putI C0 hW hS fl_X7_33 e10 dX7_run_15 (fun H locs hW hS => ?_)
  refine lv_aload_n hx hb dX7_run_18 rfl (lv_at hl 0 rfl) ?_
  refine lv_iconst (v := 0) hx hb dX7_run_19 (by decide) ?_
  replace hm := ob hm; obtain ⟨σ11, e12, hm⟩ := hm
  refine r_putI C0 hW hS fl_X7_36 e12 dX7_run_20 (fun H locs hW hS => ?_)
  refine lv_aload_n hx hb dX7_run_23 rfl (lv_at hl 0 rfl) ?_
  refine lv_iconst (v := 0) hx hb dX7_run_24 (by decide) ?_
  replace hm := ob hm; obtain ⟨σ13, e14, hm⟩ := hm
  refine r_putI C0 hW hS fl_X7_39 e14 dX7_run_25 (fun H locs hW hS => ?_)
  refine lv_iconst (v := 0) hx hb dX7_run_28 (by decide) ?_
  refine lv_istore_n (lv' := [(3, .int 0), (0, .ref v0), (1, .ref v1), (2, .ref v2)]) hx hb dX7_run_29 rfl hl (by decide) rfl (fun ls hl => ?_)
  replace hm := ob hm; obtain ⟨σ58, e59, hm⟩ := hm
  refine w_X7_run_L30 N N e59 C0 hW hS (lv_sub hl [1, 2, 0] rfl) (fun H locs ls hW hS hl => ?_)
  cases hm
  exact r_vret C0 hr hlocks hW hS dX7_run_109
set_option maxHeartbeats 4000000 in
set_option maxRecDepth 100000 in
theorem b_X8_change {l : Launch} {D : va_G} {ca : Nat → ClassId} {A : Nat → Prop} {N : Nat} {σ : zS} {v0 : Nat} {r0 : Int32} {σ' : zS} (hm : m_X8_change N σ v0 = some (r0, σ')) : Met l yX8_change (.code yX8_change cX8_change 2 (some .int) :: wsL_law) ({ frames := 6, cells := 0, slots := 0, locals := 134 } : Room) (va_Pc [.ref v0] (zP D ca A σ)) (zQi r0 D ca A σ') 0 0 A := by
  refine zMk (by decide +kernel) (Nat.le_of_ble_eq_true rfl) ?_
  intro p e s m below meth c C0 hr hlocks hin hW ls hl
  have hx := C0.1
  have hb := C0.2.1
  have hS : va_S A s.heap s.heap [] := va_S.rf
  have hl : lv_has ls 2 [(0, .ref v0)] := hl
  unfold m_X8_change at hm
  refine lv_aload_n hx hb dX8_change_0 rfl (lv_at hl 0 rfl) ?_
  replace hm := ob hm; obtain ⟨a1, e2, hm⟩ := hm
  refine r_getA C0 hW fl_X8_10 e2 dX8_change_1 ?_
  refine lv_aload_n hx hb dX8_change_4 rfl (lv_at hl 0 rfl) ?_
  replace hm := ob hm; obtain ⟨a3, e4, hm⟩ := hm
  refine r_getA C0 hW fl_X8_33 e4 dX8_change_5 ?_
  replace hm := ob hm; obtain ⟨u5, e6, hm⟩ := hm
  replace hm := ob hm; obtain ⟨x8, e7, hm⟩ := hm
  refine z_calli (z_runV (As := [.ref a3]) (rest := []) (ci := 4) rfl rfl C0 lv_X8_63 (b_X4_refusalOf e7) hW hS e6 rfl hl.1 rfl (Nat.le_of_ble_eq_true rfl) dX8_change_8 rfl rfl ⟨Nat.le_of_ble_eq_true rfl, Nat.le_of_ble_eq_true rfl⟩ ⟨Nat.le_refl _, Nat.le_refl _⟩) hS (fun H locs hW hS => ?_)
  refine lv_istore_n (lv' := [(1, .int x8), (0, .ref v0)]) hx hb dX8_change_11 rfl hl (by decide) rfl (fun ls hl => ?_)
  refine lv_iload_n hx hb dX8_change_12 rfl (lv_at hl 0 rfl) ?_
  refine lv_if_ge (tgt := 18) hx hb dX8_change_13 (by decide) (fun h9 => ?_) (fun h9 => ?_)
  · rw [if_pos h9] at hm
    refine lv_aload_n hx hb dX8_change_18 rfl (lv_at hl 1 rfl) ?_
    replace hm := ob hm; obtain ⟨a10, e11, hm⟩ := hm
    refine r_getA C0 hW fl_X8_19 e11 dX8_change_19 ?_
    refine lv_aload_n hx hb dX8_change_22 rfl (lv_at hl 1 rfl) ?_
    replace hm := ob hm; obtain ⟨a12, e13, hm⟩ := hm
    refine r_getA C0 hW fl_X8_10 e13 dX8_change_23 ?_
    replace hm := ob hm; obtain ⟨u14, e15, hm⟩ := hm
    replace hm := ob hm; obtain ⟨σ17, e16, hm⟩ := hm
    refine z_callv (z_runV (As := [.ref a12]) (rest := []) (ci := 1) rfl rfl C0 lv_X8_67 (b_X1_record e16) hW hS e15 rfl hl.1 rfl (Nat.le_of_ble_eq_true rfl) dX8_change_26 rfl rfl ⟨Nat.le_of_ble_eq_true rfl, Nat.le_of_ble_eq_true rfl⟩ ⟨Nat.le_refl _, Nat.le_refl _⟩) hS (fun H locs hW hS => ?_)
    refine lv_aload_n hx hb dX8_change_29 rfl (lv_at hl 1 rfl) ?_
    replace hm := ob hm; obtain ⟨a18, e19, hm⟩ := hm
    refine r_getA C0 hW fl_X8_10 e19 dX8_change_30 ?_
    refine lv_aload_n hx hb dX8_change_33 rfl (lv_at hl 1 rfl) ?_
    replace hm := ob hm; obtain ⟨a20, e21, hm⟩ := hm
    refine r_getA C0 hW fl_X8_33 e21 dX8_change_34 ?_
    replace hm := ob hm; obtain ⟨u22, e23, hm⟩ := hm
    replace hm := o2 hm; obtain ⟨x26, σ25, e24, hm⟩ := hm
    refine z_calli (z_runV (As := [.ref a20]) (rest := []) (ci := 4) rfl rfl C0 lv_X8_71 (b_X4_carryOut e24) hW hS e23 rfl hl.1 rfl (Nat.le_of_ble_eq_true rfl) dX8_change_37 rfl rfl ⟨Nat.le_of_ble_eq_true rfl, Nat.le_of_ble_eq_true rfl⟩ ⟨Nat.le_refl _, Nat.le_refl _⟩) hS (fun H locs hW hS => ?_)
    obtain ⟨hq8, hq9⟩ := Prod.mk.inj (Option.some.inj hm); subst hq8; subst hq9
    exact r_iret C0 hr hlocks hW hS dX8_change_40
  · rw [if_neg h9] at hm
    refine lv_iload_n hx hb dX8_change_16 rfl (lv_at hl 0 rfl) ?_
    obtain ⟨hq8, hq9⟩ := Prod.mk.inj (Option.some.inj hm); subst hq8; subst hq9
    exact r_iret C0 hr hlocks hW hS dX8_change_17
set_option maxHeartbeats 4000000 in
set_option maxRecDepth 100000 in
theorem b_X8_add {l : Launch} {D : va_G} {ca : Nat → ClassId} {A : Nat → Prop} {N : Nat} {σ : zS} {v0 : Nat} {v1 : Int32} {v2 : Int32} {r0 : Int32} {σ' : zS} (hm : m_X8_add N σ v0 v1 v2 = some (r0, σ')) : Met l yX8_add (.code yX8_add cX8_add 3 (some .int) :: wsL_law) ({ frames := 7, cells := 0, slots := 0, locals := 155 } : Room) (va_Pc [.ref v0, .int v1, .int v2] (zP D ca A σ)) (zQi r0 D ca A σ') 0 0 A := by
  refine zMk (by decide +kernel) (Nat.le_of_ble_eq_true rfl) ?_
  intro p e s m below meth c C0 hr hlocks hin hW ls hl
  have hx := C0.1
  have hb := C0.2.1
  have hS : va_S A s.heap s.heap [] := va_S.rf
  have hl : lv_has ls 3 [(0, .ref v0), (1, .int v1), (2, .int v2)] := hl
  unfold m_X8_add at hm
  refine lv_aload_n hx hb dX8_add_0 rfl (lv_at hl 0 rfl) ?_
  replace hm := ob hm; obtain ⟨a1, e2, hm⟩ := hm
  refine r_getA C0 hW fl_X8_33 e2 dX8_add_1 ?_
  refine lv_bipush (v := 97) hx hb dX8_add_4 (by decide) ?_
  refine lv_iload_n hx hb dX8_add_6 rfl (lv_at hl 1 rfl) ?_
  refine lv_iload_n hx hb dX8_add_7 rfl (lv_at hl 2 rfl) ?_
  replace hm := ob hm; obtain ⟨u3, e4, hm⟩ := hm
  replace hm := ob hm; obtain ⟨σ6, e5, hm⟩ := hm
  refine z_callv (z_runV (As := [.int 97, .int v1, .int v2]) (rest := []) (ci := 0) rfl rfl C0 lv_X8_51 (b_X0_put e5) hW hS e4 rfl hl.1 rfl (Nat.le_of_ble_eq_true rfl) dX8_add_8 rfl rfl ⟨Nat.le_of_ble_eq_true rfl, Nat.le_of_ble_eq_true rfl⟩ ⟨Nat.le_refl _, Nat.le_refl _⟩) hS (fun H locs hW hS => ?_)
  refine lv_aload_n hx hb dX8_add_11 rfl (lv_at hl 0 rfl) ?_
  replace hm := ob hm; obtain ⟨u7, e8, hm⟩ := hm
  replace hm := o2 hm; obtain ⟨x11, σ10, e9, hm⟩ := hm
  refine z_calli (z_runV (As := []) (rest := []) (ci := 8) rfl rfl C0 lv_X8_55 (b_X8_change e9) hW hS e8 rfl hl.1 rfl (Nat.le_of_ble_eq_true rfl) dX8_add_12 rfl rfl ⟨Nat.le_of_ble_eq_true rfl, Nat.le_of_ble_eq_true rfl⟩ ⟨Nat.le_refl _, Nat.le_refl _⟩) hS (fun H locs hW hS => ?_)
  obtain ⟨hq8, hq9⟩ := Prod.mk.inj (Option.some.inj hm); subst hq8; subst hq9
  exact r_iret C0 hr hlocks hW hS dX8_add_15
set_option maxHeartbeats 4000000 in
set_option maxRecDepth 100000 in
theorem b_X8_addRow {l : Launch} {D : va_G} {ca : Nat → ClassId} {A : Nat → Prop} {N : Nat} {σ : zS} {v0 : Nat} {v1 : Int32} {v2 : Int32} {v3 : Int32} {v4 : Int32} {r0 : Int32} {σ' : zS} (hm : m_X8_addRow N σ v0 v1 v2 v3 v4 = some (r0, σ')) : Met l yX8_addRow (.code yX8_addRow cX8_addRow 5 (some .int) :: wsL_law) ({ frames := 7, cells := 0, slots := 0, locals := 155 } : Room) (va_Pc [.ref v0, .int v1, .int v2, .int v3, .int v4] (zP D ca A σ)) (zQi r0 D ca A σ') 0 0 A := by
  refine zMk (by decide +kernel) (Nat.le_of_ble_eq_true rfl) ?_
  intro p e s m below meth c C0 hr hlocks hin hW ls hl
  have hx := C0.1
  have hb := C0.2.1
  have hS : va_S A s.heap s.heap [] := va_S.rf
  have hl : lv_has ls 5 [(0, .ref v0), (1, .int v1), (2, .int v2), (3, .int v3), (4, .int v4)] := hl
  unfold m_X8_addRow at hm
  refine lv_aload_n hx hb dX8_addRow_0 rfl (lv_at hl 0 rfl) ?_
  replace hm := ob hm; obtain ⟨a1, e2, hm⟩ := hm
  refine r_getA C0 hW fl_X8_33 e2 dX8_addRow_1 ?_
  refine lv_bipush (v := 115) hx hb dX8_addRow_4 (by decide) ?_
  refine lv_iload_n hx hb dX8_addRow_6 rfl (lv_at hl 1 rfl) ?_
  refine lv_iload_n hx hb dX8_addRow_7 rfl (lv_at hl 2 rfl) ?_
  replace hm := ob hm; obtain ⟨u3, e4, hm⟩ := hm
  replace hm := ob hm; obtain ⟨σ6, e5, hm⟩ := hm
  refine z_callv (z_runV (As := [.int 115, .int v1, .int v2]) (rest := []) (ci := 0) rfl rfl C0 lv_X8_51 (b_X0_put e5) hW hS e4 rfl hl.1 rfl (Nat.le_of_ble_eq_true rfl) dX8_addRow_8 rfl rfl ⟨Nat.le_of_ble_eq_true rfl, Nat.le_of_ble_eq_true rfl⟩ ⟨Nat.le_refl _, Nat.le_refl _⟩) hS (fun H locs hW hS => ?_)
  refine lv_aload_n hx hb dX8_addRow_11 rfl (lv_at hl 0 rfl) ?_
  replace hm := ob hm; obtain ⟨a7, e8, hm⟩ := hm
  refine r_getA C0 hW fl_X8_33 e8 dX8_addRow_12 ?_
  refine lv_iload_n hx hb dX8_addRow_15 rfl (lv_at hl 3 rfl) ?_
  refine lv_iload hx hb dX8_addRow_16 (lv_at hl 4 rfl) ?_
  replace hm := ob hm; obtain ⟨u9, e10, hm⟩ := hm
  replace hm := ob hm; obtain ⟨σ12, e11, hm⟩ := hm
  refine z_callv (z_runV (As := [.int v3, .int v4]) (rest := []) (ci := 0) rfl rfl C0 lv_X8_59 (b_X0_putMore e11) hW hS e10 rfl hl.1 rfl (Nat.le_of_ble_eq_true rfl) dX8_addRow_18 rfl rfl ⟨Nat.le_of_ble_eq_true rfl, Nat.le_of_ble_eq_true rfl⟩ ⟨Nat.le_refl _, Nat.le_refl _⟩) hS (fun H locs hW hS => ?_)
  refine lv_aload_n hx hb dX8_addRow_21 rfl (lv_at hl 0 rfl) ?_
  replace hm := ob hm; obtain ⟨u13, e14, hm⟩ := hm
  replace hm := o2 hm; obtain ⟨x17, σ16, e15, hm⟩ := hm
  refine z_calli (z_runV (As := []) (rest := []) (ci := 8) rfl rfl C0 lv_X8_55 (b_X8_change e15) hW hS e14 rfl hl.1 rfl (Nat.le_of_ble_eq_true rfl) dX8_addRow_22 rfl rfl ⟨Nat.le_of_ble_eq_true rfl, Nat.le_of_ble_eq_true rfl⟩ ⟨Nat.le_refl _, Nat.le_refl _⟩) hS (fun H locs hW hS => ?_)
  obtain ⟨hq8, hq9⟩ := Prod.mk.inj (Option.some.inj hm); subst hq8; subst hq9
  exact r_iret C0 hr hlocks hW hS dX8_addRow_25
set_option maxHeartbeats 4000000 in
set_option maxRecDepth 100000 in
theorem w_X8_bitsOfQuotient_L26 {p : Program} {l : Launch} {e : Env} {s : State} {m : MethodId} {args : Array Value} {below : List Frame} {meth : Method} {c : Code} {D : va_G} {ca : Nat → ClassId} {A : Nat → Prop} {Q : State → Prop} (N : Nat) : ∀ (n : Nat) {σ : zS} {v0 : Int32} {v1 : Int32} {v2 : Int64} {v4 : Int64} {v6 : Int32} {y6 : Int32} {H : Heap} {locs : List Loc} {ls : Array Slot}, m_X8_bitsOfQuotient_L26 N n σ v0 v1 v2 v4 v6 = some y6 → zC p s m args c RX8 cX8_bitsOfQuotient 9 D ca A → zW D ca A σ H → va_S A s.heap H locs → lv_has ls 9 [(0, .int v0), (1, .int v1), (2, .long v2), (4, .long v4), (6, .int v6)] → (∀ (H : Heap) (locs : List Loc) (ls : Array Slot), zW D ca A σ H → va_S A s.heap H locs → lv_has ls 9 [(0, .int v0), (1, .int v1), (2, .long v2), (6, .int y6)] → W p l e ({ frames := 1, cells := 0, slots := 0, locals := 26 } : Room) s m args below meth c H locs 0 0 Q (F0 m 49 ls [])) → W p l e ({ frames := 1, cells := 0, slots := 0, locals := 26 } : Room) s m args below meth c H locs 0 0 Q (F0 m 26 ls []) := by
  intro n
  induction n with
  | zero =>
    intro σ v0 v1 v2 v4 v6 y6 H locs ls hm C0 hW hS hl kk
    rw [m_X8_bitsOfQuotient_L26] at hm
    cases hm
  | succ n ih =>
    intro σ v0 v1 v2 v4 v6 y6 H locs ls hm C0 hW hS hl kk
    rw [m_X8_bitsOfQuotient_L26] at hm
    have hx := C0.1
    have hb := C0.2.1
    refine lv_iload hx hb dX8_bitsOfQuotient_26 (lv_at hl 4 rfl) ?_
    refine lv_bipush (v := 40) hx hb dX8_bitsOfQuotient_28 (by decide) ?_
    refine lv_icmp_ge (tgt := 49) hx hb dX8_bitsOfQuotient_30 (by decide) (fun h7 => ?_) (fun h7 => ?_)
    · rw [if_pos h7] at hm
      cases hm
      exact kk _ _ _ hW hS (lv_sub hl [0, 1, 2, 4] rfl)
    · rw [if_neg h7] at hm
      refine lv_lload_n hx hb dX8_bitsOfQuotient_33 rfl (lv_at hl 2 rfl) ?_
      refine lv_iload hx hb dX8_bitsOfQuotient_34 (lv_at hl 4 rfl) ?_
      refine r_lshl hx hb dX8_bitsOfQuotient_36 ?_
      refine lv_lload hx hb dX8_bitsOfQuotient_37 (lv_at hl 3 rfl) ?_
      refine r_lcmp hx hb dX8_bitsOfQuotient_39 ?_
      refine lv_if_ge (tgt := 49) hx hb dX8_bitsOfQuotient_40 (by decide) (fun h8 => ?_) (fun h8 => ?_)
      · rw [if_pos h8] at hm
        cases hm
        exact kk _ _ _ hW hS (lv_sub hl [0, 1, 2, 4] rfl)
      · rw [if_neg h8] at hm
        replace hm := ob hm; obtain ⟨x9, e10, hm⟩ := hm
        refine lv_iinc (v := x9) (lv' := [(6, .int x9), (0, .int v0), (1, .int v1), (2, .long v2), (4, .long v4)]) hx hb dX8_bitsOfQuotient_43 hl (k := 4) rfl (Option.some.inj e10) (by decide) rfl (fun ls hl => ?_)
        refine lv_goto (tgt := 26) hx hb dX8_bitsOfQuotient_46 (by decide) ?_
        exact ih hm C0 hW hS (lv_sub hl [1, 2, 3, 4, 0] rfl) kk
set_option maxHeartbeats 4000000 in
set_option maxRecDepth 100000 in
theorem b_X8_bitsOfQuotient {l : Launch} {D : va_G} {ca : Nat → ClassId} {A : Nat → Prop} {N : Nat} {σ : zS} {v0 : Int32} {v1 : Int32} {r0 : Int32} (hm : m_X8_bitsOfQuotient N σ v0 v1 = some r0) : Met l yX8_bitsOfQuotient (.code yX8_bitsOfQuotient cX8_bitsOfQuotient 9 (some .int) :: wsL_law) ({ frames := 1, cells := 0, slots := 0, locals := 26 } : Room) (va_Pc [.int v0, .int v1] (zP D ca A σ)) (zQi r0 D ca A σ) 0 0 A := by
  refine zMk (by decide +kernel) (Nat.le_of_ble_eq_true rfl) ?_
  intro p e s m below meth c C0 hr hlocks hin hW ls hl
  have hx := C0.1
  have hb := C0.2.1
  have hS : va_S A s.heap s.heap [] := va_S.rf
  have hl : lv_has ls 9 [(0, .int v0), (1, .int v1)] := hl
  unfold m_X8_bitsOfQuotient at hm
  refine lv_iload_n hx hb dX8_bitsOfQuotient_0 rfl (lv_at hl 0 rfl) ?_
  refine lv_if_eq (tgt := 8) hx hb dX8_bitsOfQuotient_1 (by decide) (fun h1 => ?_) (fun h1 => ?_)
  · rw [if_pos h1] at hm
    refine lv_iconst (v := 0) hx hb dX8_bitsOfQuotient_8 (by decide) ?_
    cases hm
    exact r_iret C0 hr hlocks hW hS dX8_bitsOfQuotient_9
  · rw [if_neg h1] at hm
    refine lv_iload_n hx hb dX8_bitsOfQuotient_4 rfl (lv_at hl 1 rfl) ?_
    refine lv_if_gt (tgt := 10) hx hb dX8_bitsOfQuotient_5 (by decide) (fun h2 => ?_) (fun h2 => ?_)
    · rw [if_pos h2] at hm
      refine lv_iload_n hx hb dX8_bitsOfQuotient_10 rfl (lv_at hl 0 rfl) ?_
      refine r_abs C0 lb_X8_224 hl.1 (Nat.le_of_ble_eq_true rfl) (Nat.le_of_ble_eq_true rfl) ⟨Nat.le_refl _, Nat.le_refl _⟩ dX8_bitsOfQuotient_11 ?_
      refine lv_i2l hx hb dX8_bitsOfQuotient_14 rfl ?_
      replace hm := ob hm; obtain ⟨x3, e4, hm⟩ := hm
      refine z_topl e4 ?_
      refine lv_lstore_n (lv' := [(2, .long x3), (0, .int v0), (1, .int v1)]) hx hb dX8_bitsOfQuotient_15 rfl hl (by decide) rfl (fun ls hl => ?_)
      refine lv_iload_n hx hb dX8_bitsOfQuotient_16 rfl (lv_at hl 2 rfl) ?_
      refine lv_i2l hx hb dX8_bitsOfQuotient_17 rfl ?_
      refine lv_bipush (v := 23) hx hb dX8_bitsOfQuotient_18 (by decide) ?_
      refine r_lshl hx hb dX8_bitsOfQuotient_20 ?_
      replace hm := ob hm; obtain ⟨x5, e6, hm⟩ := hm
      refine z_topl e6 ?_
      refine lv_lstore (lv' := [(4, .long x5), (2, .long x3), (0, .int v0), (1, .int v1)]) hx hb dX8_bitsOfQuotient_21 hl (by decide) rfl (fun ls hl => ?_)
      refine lv_iconst (v := 0) hx hb dX8_bitsOfQuotient_23 (by decide) ?_
      refine lv_istore (lv' := [(6, .int 0), (4, .long x5), (2, .long x3), (0, .int v0), (1, .int v1)]) hx hb dX8_bitsOfQuotient_24 hl (by decide) rfl (fun ls hl => ?_)
      replace hm := ob hm; obtain ⟨y11, e12, hm⟩ := hm
      refine w_X8_bitsOfQuotient_L26 N N e12 C0 hW hS (lv_sub hl [3, 4, 2, 1, 0] rfl) (fun H locs ls hW hS hl => ?_)
      refine lv_lload_n hx hb dX8_bitsOfQuotient_49 rfl (lv_at hl 2 rfl) ?_
      refine lv_iload hx hb dX8_bitsOfQuotient_50 (lv_at hl 3 rfl) ?_
      refine lv_iconst (v := 1) hx hb dX8_bitsOfQuotient_52 (by decide) ?_
      refine lv_iadd hx hb dX8_bitsOfQuotient_53 ?_
      refine r_lshl hx hb dX8_bitsOfQuotient_54 ?_
      refine lv_iload_n hx hb dX8_bitsOfQuotient_55 rfl (lv_at hl 1 rfl) ?_
      refine lv_i2l hx hb dX8_bitsOfQuotient_56 rfl ?_
      replace hm := ob hm; obtain ⟨u13, e14, hm⟩ := hm
      refine lv_ldiv hx hb dX8_bitsOfQuotient_57 (ckDL_ne e14) ?_
      refine lv_lconst (v := 1) hx hb dX8_bitsOfQuotient_58 (by decide) ?_
      refine lv_ladd hx hb dX8_bitsOfQuotient_59 ?_
      refine lv_ldc2 (v := 2) hx hb C0.2.2.2.1 (C0.2.2.2.2.1 _ (zin_27 _ (List.mem_of_getElem? (i := 23) rfl))) dX8_bitsOfQuotient_60 ?_
      replace hm := ob hm; obtain ⟨u15, e16, hm⟩ := hm
      refine lv_ldiv hx hb dX8_bitsOfQuotient_63 (ckDL_ne e16) ?_
      refine lv_l2i hx hb dX8_bitsOfQuotient_64 rfl ?_
      replace hm := ob hm; obtain ⟨x17, e18, hm⟩ := hm
      refine z_top e18 ?_
      refine lv_istore (lv' := [(7, .int x17), (0, .int v0), (1, .int v1), (2, .long x3), (6, .int y11)]) hx hb dX8_bitsOfQuotient_65 hl (by decide) rfl (fun ls hl => ?_)
      refine lv_sipush (v := 150) hx hb dX8_bitsOfQuotient_67 (by decide) ?_
      refine lv_iload hx hb dX8_bitsOfQuotient_70 (lv_at hl 4 rfl) ?_
      refine lv_isub hx hb dX8_bitsOfQuotient_72 ?_
      refine lv_bipush (v := 23) hx hb dX8_bitsOfQuotient_73 (by decide) ?_
      refine lv_ishl hx hb dX8_bitsOfQuotient_75 ?_
      refine lv_iload hx hb dX8_bitsOfQuotient_76 (lv_at hl 0 rfl) ?_
      refine lv_ldc (v := 8388608) hx hb C0.2.2.2.1 (C0.2.2.2.2.1 _ (zin_28 _ (List.mem_of_getElem? (i := 0) rfl))) dX8_bitsOfQuotient_78 ?_
      refine lv_isub hx hb dX8_bitsOfQuotient_80 ?_
      refine lv_iadd hx hb dX8_bitsOfQuotient_81 ?_
      replace hm := ob hm; obtain ⟨x19, e20, hm⟩ := hm
      refine z_top e20 ?_
      refine lv_istore (lv' := [(8, .int x19), (7, .int x17), (0, .int v0), (1, .int v1), (2, .long x3), (6, .int y11)]) hx hb dX8_bitsOfQuotient_82 hl (by decide) rfl (fun ls hl => ?_)
      refine lv_iload_n hx hb dX8_bitsOfQuotient_84 rfl (lv_at hl 2 rfl) ?_
      refine lv_if_ge (tgt := 96) hx hb dX8_bitsOfQuotient_85 (by decide) (fun h21 => ?_) (fun h21 => ?_)
      · rw [if_pos h21] at hm
        refine lv_iload hx hb dX8_bitsOfQuotient_96 (lv_at hl 0 rfl) ?_
        cases hm
        exact r_iret C0 hr hlocks hW hS dX8_bitsOfQuotient_98
      · rw [if_neg h21] at hm
        refine lv_iload hx hb dX8_bitsOfQuotient_88 (lv_at hl 0 rfl) ?_
        refine lv_ldc (v := (-2147483648)) hx hb C0.2.2.2.1 (C0.2.2.2.2.1 _ (zin_28 _ (List.mem_of_getElem? (i := 1) rfl))) dX8_bitsOfQuotient_90 ?_
        refine lv_ior hx hb dX8_bitsOfQuotient_92 ?_
        refine lv_goto (tgt := 98) hx hb dX8_bitsOfQuotient_93 (by decide) ?_
        cases hm
        exact r_iret C0 hr hlocks hW hS dX8_bitsOfQuotient_98
    · rw [if_neg h2] at hm
      refine lv_iconst (v := 0) hx hb dX8_bitsOfQuotient_8 (by decide) ?_
      cases hm
      exact r_iret C0 hr hlocks hW hS dX8_bitsOfQuotient_9
set_option maxHeartbeats 4000000 in
set_option maxRecDepth 100000 in
theorem b_X8_both {l : Launch} {D : va_G} {ca : Nat → ClassId} {A : Nat → Prop} {N : Nat} {σ : zS} {v0 : Nat} {v1 : Int32} {v2 : Int32} {v3 : Int32} {r0 : Int32} {σ' : zS} (hm : m_X8_both N σ v0 v1 v2 v3 = some (r0, σ')) : Met l yX8_both (.code yX8_both cX8_both 7 (some .int) :: wsL_law) ({ frames := 3, cells := 0, slots := 0, locals := 71 } : Room) (va_Pc [.ref v0, .int v1, .int v2, .int v3] (zP D ca A σ)) (zQi r0 D ca A σ') 0 0 A := by
  refine zMk (by decide +kernel) (Nat.le_of_ble_eq_true rfl) ?_
  intro p e s m below meth c C0 hr hlocks hin hW ls hl
  have hx := C0.1
  have hb := C0.2.1
  have hS : va_S A s.heap s.heap [] := va_S.rf
  have hl : lv_has ls 7 [(0, .ref v0), (1, .int v1), (2, .int v2), (3, .int v3)] := hl
  unfold m_X8_both at hm
  refine lv_aload_n hx hb dX8_both_0 rfl (lv_at hl 0 rfl) ?_
  replace hm := ob hm; obtain ⟨a1, e2, hm⟩ := hm
  refine r_getA C0 hW fl_X8_10 e2 dX8_both_1 ?_
  refine lv_iload_n hx hb dX8_both_4 rfl (lv_at hl 1 rfl) ?_
  replace hm := ob hm; obtain ⟨u3, e4, hm⟩ := hm
  replace hm := ob hm; obtain ⟨r6, e5, hm⟩ := hm
  refine z_callq (z_runV (As := [.int v1]) (rest := []) (ci := 4) rfl rfl C0 lv_X8_74 (b_X4_find e5) hW hS e4 rfl hl.1 rfl (Nat.le_of_ble_eq_true rfl) dX8_both_5 rfl rfl ⟨Nat.le_of_ble_eq_true rfl, Nat.le_of_ble_eq_true rfl⟩ ⟨Nat.le_refl _, Nat.le_refl _⟩) hS (fun H locs hW hS => ?_)
  replace hm := oe hm; rcases hm with ⟨hn, hm⟩ | ⟨a7, hn, hm⟩
  · subst hn
    refine lv_astoreN (lv' := [(4, .null), (0, .ref v0), (1, .int v1), (2, .int v2), (3, .int v3)]) hx hb dX8_both_8 hl (by decide) rfl (fun ls hl => ?_)
    refine lv_aload_n hx hb dX8_both_10 rfl (lv_at hl 1 rfl) ?_
    replace hm := ob hm; obtain ⟨a8, e9, hm⟩ := hm
    refine r_getA C0 hW fl_X8_10 e9 dX8_both_11 ?_
    refine lv_iload_n hx hb dX8_both_14 rfl (lv_at hl 3 rfl) ?_
    replace hm := ob hm; obtain ⟨u10, e11, hm⟩ := hm
    replace hm := ob hm; obtain ⟨r13, e12, hm⟩ := hm
    refine z_callq (z_runV (As := [.int v2]) (rest := []) (ci := 4) rfl rfl C0 lv_X8_74 (b_X4_find e12) hW hS e11 rfl hl.1 rfl (Nat.le_of_ble_eq_true rfl) dX8_both_15 rfl rfl ⟨Nat.le_of_ble_eq_true rfl, Nat.le_of_ble_eq_true rfl⟩ ⟨Nat.le_refl _, Nat.le_refl _⟩) hS (fun H locs hW hS => ?_)
    replace hm := oe hm; rcases hm with ⟨hn, hm⟩ | ⟨a14, hn, hm⟩
    · subst hn
      refine lv_astoreN (lv' := [(5, .null), (4, .null), (0, .ref v0), (1, .int v1), (2, .int v2), (3, .int v3)]) hx hb dX8_both_18 hl (by decide) rfl (fun ls hl => ?_)
      refine lv_aloadN hx hb dX8_both_20 (lv_at hl 1 rfl) ?_
      refine lv_ifnullN (tgt := 38) hx hb dX8_both_22 (by decide) ?_
      refine lv_iconst (v := (-1)) hx hb dX8_both_38 (by decide) ?_
      obtain ⟨hq8, hq9⟩ := Prod.mk.inj (Option.some.inj hm); subst hq8; subst hq9
      exact r_iret C0 hr hlocks hW hS dX8_both_39
    · subst hn
      refine lv_astore (lv' := [(5, .ref a14), (4, .null), (0, .ref v0), (1, .int v1), (2, .int v2), (3, .int v3)]) hx hb dX8_both_18 hl (by decide) rfl (fun ls hl => ?_)
      refine lv_aloadN hx hb dX8_both_20 (lv_at hl 1 rfl) ?_
      refine lv_ifnullN (tgt := 38) hx hb dX8_both_22 (by decide) ?_
      refine lv_iconst (v := (-1)) hx hb dX8_both_38 (by decide) ?_
      obtain ⟨hq8, hq9⟩ := Prod.mk.inj (Option.some.inj hm); subst hq8; subst hq9
      exact r_iret C0 hr hlocks hW hS dX8_both_39
  · subst hn
    refine lv_astore (lv' := [(4, .ref a7), (0, .ref v0), (1, .int v1), (2, .int v2), (3, .int v3)]) hx hb dX8_both_8 hl (by decide) rfl (fun ls hl => ?_)
    refine lv_aload_n hx hb dX8_both_10 rfl (lv_at hl 1 rfl) ?_
    replace hm := ob hm; obtain ⟨a15, e16, hm⟩ := hm
    refine r_getA C0 hW fl_X8_10 e16 dX8_both_11 ?_
    refine lv_iload_n hx hb dX8_both_14 rfl (lv_at hl 3 rfl) ?_
    replace hm := ob hm; obtain ⟨u17, e18, hm⟩ := hm
    replace hm := ob hm; obtain ⟨r20, e19, hm⟩ := hm
    refine z_callq (z_runV (As := [.int v2]) (rest := []) (ci := 4) rfl rfl C0 lv_X8_74 (b_X4_find e19) hW hS e18 rfl hl.1 rfl (Nat.le_of_ble_eq_true rfl) dX8_both_15 rfl rfl ⟨Nat.le_of_ble_eq_true rfl, Nat.le_of_ble_eq_true rfl⟩ ⟨Nat.le_refl _, Nat.le_refl _⟩) hS (fun H locs hW hS => ?_)
    replace hm := oe hm; rcases hm with ⟨hn, hm⟩ | ⟨a21, hn, hm⟩
    · subst hn
      refine lv_astoreN (lv' := [(5, .null), (4, .ref a7), (0, .ref v0), (1, .int v1), (2, .int v2), (3, .int v3)]) hx hb dX8_both_18 hl (by decide) rfl (fun ls hl => ?_)
      refine lv_aload hx hb dX8_both_20 (lv_at hl 1 rfl) ?_
      refine lv_ifnull hx hb dX8_both_22 ?_
      refine lv_aloadN hx hb dX8_both_25 (lv_at hl 0 rfl) ?_
      refine lv_ifnullN (tgt := 38) hx hb dX8_both_27 (by decide) ?_
      refine lv_iconst (v := (-1)) hx hb dX8_both_38 (by decide) ?_
      obtain ⟨hq8, hq9⟩ := Prod.mk.inj (Option.some.inj hm); subst hq8; subst hq9
      exact r_iret C0 hr hlocks hW hS dX8_both_39
    · subst hn
      refine lv_astore (lv' := [(5, .ref a21), (4, .ref a7), (0, .ref v0), (1, .int v1), (2, .int v2), (3, .int v3)]) hx hb dX8_both_18 hl (by decide) rfl (fun ls hl => ?_)
      refine lv_aload hx hb dX8_both_20 (lv_at hl 1 rfl) ?_
      refine lv_ifnull hx hb dX8_both_22 ?_
      refine lv_aload hx hb dX8_both_25 (lv_at hl 0 rfl) ?_
      refine lv_ifnull hx hb dX8_both_27 ?_
      refine lv_iload_n hx hb dX8_both_30 rfl (lv_at hl 5 rfl) ?_
      refine lv_iconst (v := 3) hx hb dX8_both_31 (by decide) ?_
      replace hm := ob hm; obtain ⟨x23, e22, hm⟩ := hm
      refine z_calli (z_runS (As := [.int v3, .int 3]) (rest := []) C0 ls_X8_78 (b_X8_within e22) hW hS rfl hl.1 rfl (Nat.le_of_ble_eq_true rfl) dX8_both_32 rfl rfl ⟨Nat.le_of_ble_eq_true rfl, Nat.le_of_ble_eq_true rfl⟩ ⟨Nat.le_refl _, Nat.le_refl _⟩) hS (fun H locs hW hS => ?_)
      refine lv_if_ne (tgt := 40) hx hb dX8_both_35 (by decide) (fun h24 => ?_) (fun h24 => ?_)
      · rw [if_neg h24] at hm
        refine lv_iload_n hx hb dX8_both_40 rfl (lv_at hl 5 rfl) ?_
        refine lv_iconst (v := 1) hx hb dX8_both_41 (by decide) ?_
        refine lv_icmp_ne (tgt := 53) hx hb dX8_both_42 (by decide) (fun h25 => ?_) (fun h25 => ?_)
        · rw [if_neg h25] at hm
          refine lv_iload_n hx hb dX8_both_53 rfl (lv_at hl 5 rfl) ?_
          refine lv_iconst (v := 3) hx hb dX8_both_54 (by decide) ?_
          refine lv_icmp_ne (tgt := 66) hx hb dX8_both_55 (by decide) (fun h26 => ?_) (fun h26 => ?_)
          · rw [if_neg h26] at hm
            refine lv_aload hx hb dX8_both_66 (lv_at hl 1 rfl) ?_
            replace hm := ob hm; obtain ⟨a27, e28, hm⟩ := hm
            refine r_getA C0 hW fl_X8_88 e28 dX8_both_68 ?_
            refine lv_aload hx hb dX8_both_71 (lv_at hl 0 rfl) ?_
            replace hm := ob hm; obtain ⟨a29, e30, hm⟩ := hm
            refine r_getA C0 hW fl_X8_88 e30 dX8_both_73 ?_
            replace hm := ob hm; obtain ⟨u31, e32, hm⟩ := hm
            replace hm := ob hm; obtain ⟨x34, e33, hm⟩ := hm
            refine z_calli (z_runV (As := [.ref a29]) (rest := []) (ci := 3) rfl rfl C0 lv_X8_179 (b_X3_isLike e33) hW hS e32 rfl hl.1 rfl (Nat.le_of_ble_eq_true rfl) dX8_both_76 rfl rfl ⟨Nat.le_of_ble_eq_true rfl, Nat.le_of_ble_eq_true rfl⟩ ⟨Nat.le_refl _, Nat.le_refl _⟩) hS (fun H locs hW hS => ?_)
            refine lv_if_ne (tgt := 85) hx hb dX8_both_79 (by decide) (fun h35 => ?_) (fun h35 => ?_)
            · rw [if_neg h35] at hm
              refine lv_aload_n hx hb dX8_both_85 rfl (lv_at hl 2 rfl) ?_
              replace hm := ob hm; obtain ⟨a36, e37, hm⟩ := hm
              refine r_getA C0 hW fl_X8_47 e37 dX8_both_86 ?_
              refine lv_aload hx hb dX8_both_89 (lv_at hl 1 rfl) ?_
              replace hm := ob hm; obtain ⟨a38, e39, hm⟩ := hm
              refine r_getA C0 hW fl_X8_88 e39 dX8_both_91 ?_
              replace hm := ob hm; obtain ⟨u40, e41, hm⟩ := hm
              replace hm := ob hm; obtain ⟨σ43, e42, hm⟩ := hm
              refine z_callv (z_runV (As := [.ref a38]) (rest := []) (ci := 3) rfl rfl C0 lv_X8_158 (b_X3_copyFrom e42) hW hS e41 rfl hl.1 rfl (Nat.le_of_ble_eq_true rfl) dX8_both_94 rfl rfl ⟨Nat.le_of_ble_eq_true rfl, Nat.le_of_ble_eq_true rfl⟩ ⟨Nat.le_refl _, Nat.le_refl _⟩) hS (fun H locs hW hS => ?_)
              refine lv_aload_n hx hb dX8_both_97 rfl (lv_at hl 2 rfl) ?_
              replace hm := ob hm; obtain ⟨a44, e45, hm⟩ := hm
              refine r_getA C0 hW fl_X8_47 e45 dX8_both_98 ?_
              refine lv_aload hx hb dX8_both_101 (lv_at hl 0 rfl) ?_
              replace hm := ob hm; obtain ⟨a46, e47, hm⟩ := hm
              refine r_getA C0 hW fl_X8_88 e47 dX8_both_103 ?_
              replace hm := ob hm; obtain ⟨u48, e49, hm⟩ := hm
              replace hm := ob hm; obtain ⟨σ51, e50, hm⟩ := hm
              refine z_callv (z_runV (As := [.ref a46]) (rest := []) (ci := 3) rfl rfl C0 lv_X8_183 (b_X3_unite e50) hW hS e49 rfl hl.1 rfl (Nat.le_of_ble_eq_true rfl) dX8_both_106 rfl rfl ⟨Nat.le_of_ble_eq_true rfl, Nat.le_of_ble_eq_true rfl⟩ ⟨Nat.le_refl _, Nat.le_refl _⟩) hS (fun H locs hW hS => ?_)
              refine lv_aload_n hx hb dX8_both_109 rfl (lv_at hl 2 rfl) ?_
              replace hm := ob hm; obtain ⟨a52, e53, hm⟩ := hm
              refine r_getA C0 hW fl_X8_47 e53 dX8_both_110 ?_
              replace hm := ob hm; obtain ⟨u54, e55, hm⟩ := hm
              replace hm := ob hm; obtain ⟨x57, e56, hm⟩ := hm
              refine z_calli (z_runV (As := []) (rest := []) (ci := 3) rfl rfl C0 lv_X8_166 (b_X3_told e56) hW hS e55 rfl hl.1 rfl (Nat.le_of_ble_eq_true rfl) dX8_both_113 rfl rfl ⟨Nat.le_of_ble_eq_true rfl, Nat.le_of_ble_eq_true rfl⟩ ⟨Nat.le_refl _, Nat.le_refl _⟩) hS (fun H locs hW hS => ?_)
              refine lv_istore (lv' := [(6, .int x57), (5, .ref a21), (4, .ref a7), (0, .ref v0), (1, .int v1), (2, .int v2), (3, .int v3)]) hx hb dX8_both_116 hl (by decide) rfl (fun ls hl => ?_)
              refine lv_iload_n hx hb dX8_both_118 rfl (lv_at hl 6 rfl) ?_
              refine lv_if_ne (tgt := 125) hx hb dX8_both_119 (by decide) (fun h58 => ?_) (fun h58 => ?_)
              · rw [if_neg h58] at hm
                refine lv_iconst (v := 0) hx hb dX8_both_125 (by decide) ?_
                refine lv_aload hx hb dX8_both_126 (lv_at hl 2 rfl) ?_
                replace hm := ob hm; obtain ⟨a59, e60, hm⟩ := hm
                refine r_getA C0 hW fl_X8_88 e60 dX8_both_128 ?_
                replace hm := ob hm; obtain ⟨u61, e62, hm⟩ := hm
                replace hm := ob hm; obtain ⟨x64, e63, hm⟩ := hm
                refine z_calli (z_runV (As := []) (rest := [.int 0]) (ci := 3) rfl rfl C0 lv_X8_166 (b_X3_told e63) hW hS e62 rfl hl.1 rfl (Nat.le_of_ble_eq_true rfl) dX8_both_131 rfl rfl ⟨Nat.le_of_ble_eq_true rfl, Nat.le_of_ble_eq_true rfl⟩ ⟨Nat.le_refl _, Nat.le_refl _⟩) hS (fun H locs hW hS => ?_)
                refine lv_aload hx hb dX8_both_134 (lv_at hl 1 rfl) ?_
                replace hm := ob hm; obtain ⟨a65, e66, hm⟩ := hm
                refine r_getA C0 hW fl_X8_88 e66 dX8_both_136 ?_
                replace hm := ob hm; obtain ⟨u67, e68, hm⟩ := hm
                replace hm := ob hm; obtain ⟨x70, e69, hm⟩ := hm
                refine z_calli (z_runV (As := []) (rest := [.int x64, .int 0]) (ci := 3) rfl rfl C0 lv_X8_166 (b_X3_told e69) hW hS e68 rfl hl.1 rfl (Nat.le_of_ble_eq_true rfl) dX8_both_139 rfl rfl ⟨Nat.le_of_ble_eq_true rfl, Nat.le_of_ble_eq_true rfl⟩ ⟨Nat.le_refl _, Nat.le_refl _⟩) hS (fun H locs hW hS => ?_)
                refine lv_iadd hx hb dX8_both_142 ?_
                refine lv_iload hx hb dX8_both_143 (lv_at hl 0 rfl) ?_
                refine lv_isub hx hb dX8_both_145 ?_
                refine r_max C0 lb_X8_186 hl.1 (Nat.le_of_ble_eq_true rfl) (Nat.le_of_ble_eq_true rfl) ⟨Nat.le_refl _, Nat.le_refl _⟩ dX8_both_146 ?_
                obtain ⟨hq8, hq9⟩ := Prod.mk.inj (Option.some.inj hm); subst hq8; subst hq9
                exact r_iret C0 hr hlocks hW hS dX8_both_149
              · rw [if_pos h58] at hm
                refine lv_iload hx hb dX8_both_122 (lv_at hl 0 rfl) ?_
                obtain ⟨hq8, hq9⟩ := Prod.mk.inj (Option.some.inj hm); subst hq8; subst hq9
                exact r_iret C0 hr hlocks hW hS dX8_both_124
            · rw [if_pos h35] at hm
              refine lv_bipush (v := (-2)) hx hb dX8_both_82 (by decide) ?_
              obtain ⟨hq8, hq9⟩ := Prod.mk.inj (Option.some.inj hm); subst hq8; subst hq9
              exact r_iret C0 hr hlocks hW hS dX8_both_84
          · rw [if_pos h26] at hm
            refine lv_aload hx hb dX8_both_58 (lv_at hl 1 rfl) ?_
            refine lv_aload hx hb dX8_both_60 (lv_at hl 0 rfl) ?_
            replace hm := ob hm; obtain ⟨u71, e72, hm⟩ := hm
            replace hm := ob hm; obtain ⟨x74, e73, hm⟩ := hm
            refine z_calli (z_runV (As := [.ref a21]) (rest := []) (ci := 5) rfl rfl C0 lv_X8_176 (b_X5_sawToo e73) hW hS e72 rfl hl.1 rfl (Nat.le_of_ble_eq_true rfl) dX8_both_62 rfl rfl ⟨Nat.le_of_ble_eq_true rfl, Nat.le_of_ble_eq_true rfl⟩ ⟨Nat.le_refl _, Nat.le_refl _⟩) hS (fun H locs hW hS => ?_)
            obtain ⟨hq8, hq9⟩ := Prod.mk.inj (Option.some.inj hm); subst hq8; subst hq9
            exact r_iret C0 hr hlocks hW hS dX8_both_65
        · rw [if_pos h25] at hm
          refine lv_aload hx hb dX8_both_45 (lv_at hl 1 rfl) ?_
          refine lv_aload hx hb dX8_both_47 (lv_at hl 0 rfl) ?_
          replace hm := ob hm; obtain ⟨u75, e76, hm⟩ := hm
          replace hm := ob hm; obtain ⟨x78, e77, hm⟩ := hm
          refine z_calli (z_runV (As := [.ref a21]) (rest := []) (ci := 5) rfl rfl C0 lv_X8_172 (b_X5_sawEither e77) hW hS e76 rfl hl.1 rfl (Nat.le_of_ble_eq_true rfl) dX8_both_49 rfl rfl ⟨Nat.le_of_ble_eq_true rfl, Nat.le_of_ble_eq_true rfl⟩ ⟨Nat.le_refl _, Nat.le_refl _⟩) hS (fun H locs hW hS => ?_)
          obtain ⟨hq8, hq9⟩ := Prod.mk.inj (Option.some.inj hm); subst hq8; subst hq9
          exact r_iret C0 hr hlocks hW hS dX8_both_52
      · rw [if_pos h24] at hm
        refine lv_iconst (v := (-1)) hx hb dX8_both_38 (by decide) ?_
        obtain ⟨hq8, hq9⟩ := Prod.mk.inj (Option.some.inj hm); subst hq8; subst hq9
        exact r_iret C0 hr hlocks hW hS dX8_both_39
set_option maxHeartbeats 4000000 in
set_option maxRecDepth 100000 in
theorem w_X8_byError_L8 {p : Program} {l : Launch} {e : Env} {s : State} {m : MethodId} {args : Array Value} {below : List Frame} {meth : Method} {c : Code} {D : va_G} {ca : Nat → ClassId} {A : Nat → Prop} {Q : State → Prop} (N : Nat) : ∀ (n : Nat) {σ : zS} {v0 : Nat} {v1 : Int32} {v2 : Int32} {res : (Int32) ⊕ (Unit)} {H : Heap} {locs : List Loc} {ls : Array Slot}, m_X8_byError_L8 N n σ v0 v1 v2 = some res → zC p s m args c RX8 cX8_byError 3 D ca A → zW D ca A σ H → va_S A s.heap H locs → lv_has ls 3 [(0, .ref v0), (1, .int v1), (2, .int v2)] → (∀ (r : Int32), res = .inl r → ∀ (pc : Nat) (H : Heap) (locs : List Loc) (ls : Array Slot), decode cX8_byError pc = .ok (.ireturn, 1) → zW D ca A σ H → va_S A s.heap H locs → W p l e ({ frames := 6, cells := 0, slots := 0, locals := 133 } : Room) s m args below meth c H locs 0 0 Q (F0 m pc ls [.int r])) → (res = .inr () → ∀ (H : Heap) (locs : List Loc) (ls : Array Slot), zW D ca A σ H → va_S A s.heap H locs → lv_has ls 3 [] → W p l e ({ frames := 6, cells := 0, slots := 0, locals := 133 } : Room) s m args below meth c H locs 0 0 Q (F0 m 39 ls [])) → W p l e ({ frames := 6, cells := 0, slots := 0, locals := 133 } : Room) s m args below meth c H locs 0 0 Q (F0 m 8 ls []) := by
  intro n
  induction n with
  | zero =>
    intro σ v0 v1 v2 res H locs ls hm C0 hW hS hl kr kk
    rw [m_X8_byError_L8] at hm
    cases hm
  | succ n ih =>
    intro σ v0 v1 v2 res H locs ls hm C0 hW hS hl kr kk
    rw [m_X8_byError_L8] at hm
    have hx := C0.1
    have hb := C0.2.1
    refine lv_iload_n hx hb dX8_byError_8 rfl (lv_at hl 2 rfl) ?_
    refine lv_aload_n hx hb dX8_byError_9 rfl (lv_at hl 0 rfl) ?_
    replace hm := ob hm; obtain ⟨a2, e3, hm⟩ := hm
    refine r_getA C0 hW fl_X8_10 e3 dX8_byError_10 ?_
    replace hm := ob hm; obtain ⟨x4, e5, hm⟩ := hm
    refine r_getI C0 hW fl_X8_123 e5 dX8_byError_13 ?_
    refine lv_icmp_ge (tgt := 39) hx hb dX8_byError_16 (by decide) (fun h6 => ?_) (fun h6 => ?_)
    · rw [if_pos h6] at hm
      cases hm
      exact kk  rfl _ _ _ hW hS (lv_sub hl [] rfl)
    · rw [if_neg h6] at hm
      refine lv_aload_n hx hb dX8_byError_19 rfl (lv_at hl 0 rfl) ?_
      replace hm := ob hm; obtain ⟨a7, e8, hm⟩ := hm
      refine r_getA C0 hW fl_X8_10 e8 dX8_byError_20 ?_
      refine lv_iload_n hx hb dX8_byError_23 rfl (lv_at hl 2 rfl) ?_
      replace hm := ob hm; obtain ⟨u9, e10, hm⟩ := hm
      replace hm := ob hm; obtain ⟨x12, e11, hm⟩ := hm
      refine z_calli (z_runV (As := [.int v2]) (rest := []) (ci := 4) rfl rfl C0 lv_X8_155 (b_X4_placeByError e11) hW hS e10 rfl hl.1 rfl (Nat.le_of_ble_eq_true rfl) dX8_byError_24 rfl rfl ⟨Nat.le_of_ble_eq_true rfl, Nat.le_of_ble_eq_true rfl⟩ ⟨Nat.le_refl _, Nat.le_refl _⟩) hS (fun H locs hW hS => ?_)
      refine lv_iload_n hx hb dX8_byError_27 rfl (lv_at hl 1 rfl) ?_
      refine lv_icmp_ne (tgt := 33) hx hb dX8_byError_28 (by decide) (fun h13 => ?_) (fun h13 => ?_)
      · rw [if_neg h13] at hm
        replace hm := ob hm; obtain ⟨x14, e15, hm⟩ := hm
        refine lv_iinc (v := x14) (lv' := [(2, .int x14), (0, .ref v0), (1, .int v1)]) hx hb dX8_byError_33 hl (k := 2) rfl (Option.some.inj e15) (by decide) rfl (fun ls hl => ?_)
        refine lv_goto (tgt := 8) hx hb dX8_byError_36 (by decide) ?_
        exact ih hm C0 hW hS (lv_sub hl [1, 2, 0] rfl) kr kk
      · rw [if_pos h13] at hm
        refine lv_iload_n hx hb dX8_byError_31 rfl (lv_at hl 2 rfl) ?_
        cases hm
        exact kr _ rfl _ _ _ _ dX8_byError_32 hW hS
set_option maxHeartbeats 4000000 in
set_option maxRecDepth 100000 in
theorem b_X8_byError {l : Launch} {D : va_G} {ca : Nat → ClassId} {A : Nat → Prop} {N : Nat} {σ : zS} {v0 : Nat} {v1 : Int32} {r0 : Int32} (hm : m_X8_byError N σ v0 v1 = some r0) : Met l yX8_byError (.code yX8_byError cX8_byError 3 (some .int) :: wsL_law) ({ frames := 6, cells := 0, slots := 0, locals := 133 } : Room) (va_Pc [.ref v0, .int v1] (zP D ca A σ)) (zQi r0 D ca A σ) 0 0 A := by
  refine zMk (by decide +kernel) (Nat.le_of_ble_eq_true rfl) ?_
  intro p e s m below meth c C0 hr hlocks hin hW ls hl
  have hx := C0.1
  have hb := C0.2.1
  have hS : va_S A s.heap s.heap [] := va_S.rf
  have hl : lv_has ls 3 [(0, .ref v0), (1, .int v1)] := hl
  unfold m_X8_byError at hm
  refine lv_iload_n hx hb dX8_byError_0 rfl (lv_at hl 1 rfl) ?_
  refine lv_if_ge (tgt := 6) hx hb dX8_byError_1 (by decide) (fun h1 => ?_) (fun h1 => ?_)
  · rw [if_pos h1] at hm
    refine lv_iconst (v := 0) hx hb dX8_byError_6 (by decide) ?_
    refine lv_istore_n (lv' := [(2, .int 0), (0, .ref v0), (1, .int v1)]) hx hb dX8_byError_7 rfl hl (by decide) rfl (fun ls hl => ?_)
    replace hm := obs hm; rcases hm with ⟨r9, e16, hm⟩ | ⟨z9, e16, hm⟩
    · cases hm
      refine w_X8_byError_L8 N N e16 C0 hW hS (lv_sub hl [1, 2, 0] rfl) (fun _ hq pc2 H locs ls d2 hW hS => ?_) (fun  hq => by cases hq)
      cases hq
      exact r_iret C0 hr hlocks hW hS d2
    · refine w_X8_byError_L8 N N e16 C0 hW hS (lv_sub hl [1, 2, 0] rfl) (fun _ hq => by cases hq) (fun  hq H locs ls hW hS hl => ?_)
      cases hq
      refine lv_bipush (v := (-4)) hx hb dX8_byError_39 (by decide) ?_
      cases hm
      exact r_iret C0 hr hlocks hW hS dX8_byError_41
  · rw [if_neg h1] at hm
    refine lv_iconst (v := (-1)) hx hb dX8_byError_4 (by decide) ?_
    cases hm
    exact r_iret C0 hr hlocks hW hS dX8_byError_5
set_option maxHeartbeats 4000000 in
set_option maxRecDepth 100000 in
theorem b_X8_clearText {l : Launch} {D : va_G} {ca : Nat → ClassId} {A : Nat → Prop} {N : Nat} {σ : zS} {v0 : Nat} {r0 : Int32} {σ' : zS} (hm : m_X8_clearText N σ v0 = some (r0, σ')) : Met l yX8_clearText (.code yX8_clearText cX8_clearText 1 (some .int) :: wsL_law) ({ frames := 1, cells := 0, slots := 0, locals := 21 } : Room) (va_Pc [.ref v0] (zP D ca A σ)) (zQi r0 D ca A σ') 0 0 A := by
  refine zMk (by decide +kernel) (Nat.le_of_ble_eq_true rfl) ?_
  intro p e s m below meth c C0 hr hlocks hin hW ls hl
  have hx := C0.1
  have hb := C0.2.1
  have hS : va_S A s.heap s.heap [] := va_S.rf
  have hl : lv_has ls 1 [(0, .ref v0)] := hl
  unfold m_X8_clearText at hm
  refine lv_aload_n hx hb dX8_clearText_0 rfl (lv_at hl 0 rfl) ?_
  replace hm := ob hm; obtain ⟨a1, e2, hm⟩ := hm
  refine r_getA C0 hW fl_X8_26 e2 dX8_clearText_1 ?_
  replace hm := ob hm; obtain ⟨u3, e4, hm⟩ := hm
  replace hm := o2 hm; obtain ⟨x7, σ6, e5, hm⟩ := hm
  refine z_calli (z_runV (As := []) (rest := []) (ci := 6) rfl rfl C0 lv_X8_198 (b_X6_empty e5) hW hS e4 rfl hl.1 rfl (Nat.le_of_ble_eq_true rfl) dX8_clearText_4 rfl rfl ⟨Nat.le_of_ble_eq_true rfl, Nat.le_of_ble_eq_true rfl⟩ ⟨Nat.le_refl _, Nat.le_refl _⟩) hS (fun H locs hW hS => ?_)
  obtain ⟨hq8, hq9⟩ := Prod.mk.inj (Option.some.inj hm); subst hq8; subst hq9
  exact r_iret C0 hr hlocks hW hS dX8_clearText_7
set_option maxHeartbeats 4000000 in
set_option maxRecDepth 100000 in
theorem b_X8_count {l : Launch} {D : va_G} {ca : Nat → ClassId} {A : Nat → Prop} {N : Nat} {σ : zS} {v0 : Nat} {v1 : Int32} {r0 : Int32} (hm : m_X8_count N σ v0 v1 = some r0) : Met l yX8_count (.code yX8_count cX8_count 2 (some .int) :: wsL_law) ({ frames := 5, cells := 0, slots := 0, locals := 109 } : Room) (va_Pc [.ref v0, .int v1] (zP D ca A σ)) (zQi r0 D ca A σ) 0 0 A := by
  refine zMk (by decide +kernel) (Nat.le_of_ble_eq_true rfl) ?_
  intro p e s m below meth c C0 hr hlocks hin hW ls hl
  have hx := C0.1
  have hb := C0.2.1
  have hS : va_S A s.heap s.heap [] := va_S.rf
  have hl : lv_has ls 2 [(0, .ref v0), (1, .int v1)] := hl
  unfold m_X8_count at hm
  refine lv_iload_n hx hb dX8_count_0 rfl (lv_at hl 1 rfl) ?_
  by_cases h1 : v1 = 0
  · rw [if_pos h1] at hm
    refine z_top (congrArg some h1) ?_
    refine lv_tableIn (tgt := 48) hx hb dX8_count_1 (by decide) (by decide) rfl (by decide) ?_
    refine lv_aload_n hx hb dX8_count_48 rfl (lv_at hl 0 rfl) ?_
    replace hm := ob hm; obtain ⟨a2, e3, hm⟩ := hm
    refine r_getA C0 hW fl_X8_10 e3 dX8_count_49 ?_
    replace hm := ob hm; obtain ⟨x4, e5, hm⟩ := hm
    refine r_getI C0 hW fl_X8_123 e5 dX8_count_52 ?_
    cases hm
    exact r_iret C0 hr hlocks hW hS dX8_count_55
  · rw [if_neg h1] at hm
    by_cases h6 : v1 = 1
    · rw [if_pos h6] at hm
      refine z_top (congrArg some h6) ?_
      refine lv_tableIn (tgt := 56) hx hb dX8_count_1 (by decide) (by decide) rfl (by decide) ?_
      refine lv_aload_n hx hb dX8_count_56 rfl (lv_at hl 0 rfl) ?_
      replace hm := ob hm; obtain ⟨a7, e8, hm⟩ := hm
      refine r_getA C0 hW fl_X8_10 e8 dX8_count_57 ?_
      replace hm := ob hm; obtain ⟨x9, e10, hm⟩ := hm
      refine r_getI C0 hW fl_X8_127 e10 dX8_count_60 ?_
      cases hm
      exact r_iret C0 hr hlocks hW hS dX8_count_63
    · rw [if_neg h6] at hm
      by_cases h11 : v1 = 2
      · rw [if_pos h11] at hm
        refine z_top (congrArg some h11) ?_
        refine lv_tableIn (tgt := 64) hx hb dX8_count_1 (by decide) (by decide) rfl (by decide) ?_
        refine lv_aload_n hx hb dX8_count_64 rfl (lv_at hl 0 rfl) ?_
        replace hm := ob hm; obtain ⟨a12, e13, hm⟩ := hm
        refine r_getA C0 hW fl_X8_10 e13 dX8_count_65 ?_
        replace hm := ob hm; obtain ⟨u14, e15, hm⟩ := hm
        replace hm := ob hm; obtain ⟨x17, e16, hm⟩ := hm
        refine z_calli (z_runV (As := []) (rest := []) (ci := 4) rfl rfl C0 lv_X8_130 (b_X4_thingsOfAny e16) hW hS e15 rfl hl.1 rfl (Nat.le_of_ble_eq_true rfl) dX8_count_68 rfl rfl ⟨Nat.le_of_ble_eq_true rfl, Nat.le_of_ble_eq_true rfl⟩ ⟨Nat.le_refl _, Nat.le_refl _⟩) hS (fun H locs hW hS => ?_)
        cases hm
        exact r_iret C0 hr hlocks hW hS dX8_count_71
      · rw [if_neg h11] at hm
        by_cases h18 : v1 = 3
        · rw [if_pos h18] at hm
          refine z_top (congrArg some h18) ?_
          refine lv_tableIn (tgt := 72) hx hb dX8_count_1 (by decide) (by decide) rfl (by decide) ?_
          refine lv_aload_n hx hb dX8_count_72 rfl (lv_at hl 0 rfl) ?_
          replace hm := ob hm; obtain ⟨a19, e20, hm⟩ := hm
          refine r_getA C0 hW fl_X8_10 e20 dX8_count_73 ?_
          replace hm := ob hm; obtain ⟨u21, e22, hm⟩ := hm
          replace hm := ob hm; obtain ⟨x24, e23, hm⟩ := hm
          refine z_calli (z_runV (As := []) (rest := []) (ci := 4) rfl rfl C0 lv_X8_133 (b_X4_thingsOfAll e23) hW hS e22 rfl hl.1 rfl (Nat.le_of_ble_eq_true rfl) dX8_count_76 rfl rfl ⟨Nat.le_of_ble_eq_true rfl, Nat.le_of_ble_eq_true rfl⟩ ⟨Nat.le_refl _, Nat.le_refl _⟩) hS (fun H locs hW hS => ?_)
          cases hm
          exact r_iret C0 hr hlocks hW hS dX8_count_79
        · rw [if_neg h18] at hm
          by_cases h25 : v1 = 4
          · rw [if_pos h25] at hm
            refine z_top (congrArg some h25) ?_
            refine lv_tableIn (tgt := 80) hx hb dX8_count_1 (by decide) (by decide) rfl (by decide) ?_
            refine lv_aload_n hx hb dX8_count_80 rfl (lv_at hl 0 rfl) ?_
            replace hm := ob hm; obtain ⟨a26, e27, hm⟩ := hm
            refine r_getA C0 hW fl_X8_10 e27 dX8_count_81 ?_
            replace hm := ob hm; obtain ⟨a28, e29, hm⟩ := hm
            refine r_getA C0 hW fl_X8_114 e29 dX8_count_84 ?_
            replace hm := ob hm; obtain ⟨x30, e31, hm⟩ := hm
            refine r_getI C0 hW fl_X8_136 e31 dX8_count_87 ?_
            cases hm
            exact r_iret C0 hr hlocks hW hS dX8_count_90
          · rw [if_neg h25] at hm
            by_cases h32 : v1 = 5
            · rw [if_pos h32] at hm
              refine z_top (congrArg some h32) ?_
              refine lv_tableIn (tgt := 91) hx hb dX8_count_1 (by decide) (by decide) rfl (by decide) ?_
              refine lv_aload_n hx hb dX8_count_91 rfl (lv_at hl 0 rfl) ?_
              replace hm := ob hm; obtain ⟨a33, e34, hm⟩ := hm
              refine r_getA C0 hW fl_X8_10 e34 dX8_count_92 ?_
              replace hm := ob hm; obtain ⟨u35, e36, hm⟩ := hm
              replace hm := ob hm; obtain ⟨x38, e37, hm⟩ := hm
              refine z_calli (z_runV (As := []) (rest := []) (ci := 4) rfl rfl C0 lv_X8_139 (b_X4_tablesWithoutError e37) hW hS e36 rfl hl.1 rfl (Nat.le_of_ble_eq_true rfl) dX8_count_95 rfl rfl ⟨Nat.le_of_ble_eq_true rfl, Nat.le_of_ble_eq_true rfl⟩ ⟨Nat.le_refl _, Nat.le_refl _⟩) hS (fun H locs hW hS => ?_)
              cases hm
              exact r_iret C0 hr hlocks hW hS dX8_count_98
            · rw [if_neg h32] at hm
              by_cases h39 : v1 = 6
              · rw [if_pos h39] at hm
                refine z_top (congrArg some h39) ?_
                refine lv_tableIn (tgt := 99) hx hb dX8_count_1 (by decide) (by decide) rfl (by decide) ?_
                refine lv_aload_n hx hb dX8_count_99 rfl (lv_at hl 0 rfl) ?_
                replace hm := ob hm; obtain ⟨a40, e41, hm⟩ := hm
                refine r_getA C0 hW fl_X8_19 e41 dX8_count_100 ?_
                replace hm := ob hm; obtain ⟨x42, e43, hm⟩ := hm
                refine r_getI C0 hW fl_X8_142 e43 dX8_count_103 ?_
                cases hm
                exact r_iret C0 hr hlocks hW hS dX8_count_106
              · rw [if_neg h39] at hm
                by_cases h44 : v1 = 7
                · rw [if_pos h44] at hm
                  refine z_top (congrArg some h44) ?_
                  refine lv_tableIn (tgt := 107) hx hb dX8_count_1 (by decide) (by decide) rfl (by decide) ?_
                  refine lv_aload_n hx hb dX8_count_107 rfl (lv_at hl 0 rfl) ?_
                  replace hm := ob hm; obtain ⟨a45, e46, hm⟩ := hm
                  refine r_getA C0 hW fl_X8_26 e46 dX8_count_108 ?_
                  replace hm := ob hm; obtain ⟨x47, e48, hm⟩ := hm
                  refine r_getI C0 hW fl_X8_143 e48 dX8_count_111 ?_
                  cases hm
                  exact r_iret C0 hr hlocks hW hS dX8_count_114
                · rw [if_neg h44] at hm
                  refine lv_tableOut (tgt := 115) hx hb dX8_count_1 (by have q0 := zne (a := 0) h1 (by decide); have q1 := zne (a := 1) h6 (by decide); have q2 := zne (a := 2) h11 (by decide); have q3 := zne (a := 3) h18 (by decide); have q4 := zne (a := 4) h25 (by decide); have q5 := zne (a := 5) h32 (by decide); have q6 := zne (a := 6) h39 (by decide); have q7 := zne (a := 7) h44 (by decide); omega) (by decide) ?_
                  refine lv_iconst (v := (-1)) hx hb dX8_count_115 (by decide) ?_
                  cases hm
                  exact r_iret C0 hr hlocks hW hS dX8_count_116
set_option maxHeartbeats 4000000 in
set_option maxRecDepth 100000 in
theorem b_X8_errorBits {l : Launch} {D : va_G} {ca : Nat → ClassId} {A : Nat → Prop} {N : Nat} {σ : zS} {v0 : Nat} {v1 : Int32} {r0 : Int32} (hm : m_X8_errorBits N σ v0 v1 = some r0) : Met l yX8_errorBits (.code yX8_errorBits cX8_errorBits 3 (some .int) :: wsL_law) ({ frames := 4, cells := 0, slots := 0, locals := 86 } : Room) (va_Pc [.ref v0, .int v1] (zP D ca A σ)) (zQi r0 D ca A σ) 0 0 A := by
  refine zMk (by decide +kernel) (Nat.le_of_ble_eq_true rfl) ?_
  intro p e s m below meth c C0 hr hlocks hin hW ls hl
  have hx := C0.1
  have hb := C0.2.1
  have hS : va_S A s.heap s.heap [] := va_S.rf
  have hl : lv_has ls 3 [(0, .ref v0), (1, .int v1)] := hl
  unfold m_X8_errorBits at hm
  refine lv_aload_n hx hb dX8_errorBits_0 rfl (lv_at hl 0 rfl) ?_
  replace hm := ob hm; obtain ⟨a1, e2, hm⟩ := hm
  refine r_getA C0 hW fl_X8_10 e2 dX8_errorBits_1 ?_
  refine lv_iload_n hx hb dX8_errorBits_4 rfl (lv_at hl 1 rfl) ?_
  replace hm := ob hm; obtain ⟨u3, e4, hm⟩ := hm
  replace hm := ob hm; obtain ⟨r6, e5, hm⟩ := hm
  refine z_callq (z_runV (As := [.int v1]) (rest := []) (ci := 4) rfl rfl C0 lv_X8_74 (b_X4_find e5) hW hS e4 rfl hl.1 rfl (Nat.le_of_ble_eq_true rfl) dX8_errorBits_5 rfl rfl ⟨Nat.le_of_ble_eq_true rfl, Nat.le_of_ble_eq_true rfl⟩ ⟨Nat.le_refl _, Nat.le_refl _⟩) hS (fun H locs hW hS => ?_)
  replace hm := oe hm; rcases hm with ⟨hn, hm⟩ | ⟨a7, hn, hm⟩
  · subst hn
    refine lv_astore_nN (lv' := [(2, .null), (0, .ref v0), (1, .int v1)]) hx hb dX8_errorBits_8 rfl hl (by decide) rfl (fun ls hl => ?_)
    refine lv_aload_nN hx hb dX8_errorBits_9 rfl (lv_at hl 0 rfl) ?_
    refine lv_ifnonnullN hx hb dX8_errorBits_10 ?_
    refine lv_iconst (v := (-1)) hx hb dX8_errorBits_13 (by decide) ?_
    cases hm
    exact r_iret C0 hr hlocks hW hS dX8_errorBits_14
  · subst hn
    refine lv_astore_n (lv' := [(2, .ref a7), (0, .ref v0), (1, .int v1)]) hx hb dX8_errorBits_8 rfl hl (by decide) rfl (fun ls hl => ?_)
    refine lv_aload_n hx hb dX8_errorBits_9 rfl (lv_at hl 0 rfl) ?_
    refine lv_ifnonnull (tgt := 15) hx hb dX8_errorBits_10 (by decide) ?_
    refine lv_aload_n hx hb dX8_errorBits_15 rfl (lv_at hl 0 rfl) ?_
    replace hm := ob hm; obtain ⟨x8, e9, hm⟩ := hm
    refine r_getI C0 hW fl_X8_146 e9 dX8_errorBits_16 ?_
    refine lv_if_ne (tgt := 27) hx hb dX8_errorBits_19 (by decide) (fun h10 => ?_) (fun h10 => ?_)
    · rw [if_neg h10] at hm
      refine lv_aload_n hx hb dX8_errorBits_27 rfl (lv_at hl 0 rfl) ?_
      replace hm := ob hm; obtain ⟨u11, e12, hm⟩ := hm
      replace hm := ob hm; obtain ⟨x14, e13, hm⟩ := hm
      refine z_calli (z_runV (As := []) (rest := []) (ci := 5) rfl rfl C0 lv_X8_149 (b_X5_error e13) hW hS e12 rfl hl.1 rfl (Nat.le_of_ble_eq_true rfl) dX8_errorBits_28 rfl rfl ⟨Nat.le_of_ble_eq_true rfl, Nat.le_of_ble_eq_true rfl⟩ ⟨Nat.le_refl _, Nat.le_refl _⟩) hS (fun H locs hW hS => ?_)
      refine lv_aload_n hx hb dX8_errorBits_31 rfl (lv_at hl 0 rfl) ?_
      replace hm := ob hm; obtain ⟨x15, e16, hm⟩ := hm
      refine r_getI C0 hW fl_X8_146 e16 dX8_errorBits_32 ?_
      replace hm := ob hm; obtain ⟨x18, e17, hm⟩ := hm
      refine z_calli (z_runS (As := [.int x14, .int x15]) (rest := []) C0 ls_X8_152 (b_X8_bitsOfQuotient e17) hW hS rfl hl.1 rfl (Nat.le_of_ble_eq_true rfl) dX8_errorBits_35 rfl rfl ⟨Nat.le_of_ble_eq_true rfl, Nat.le_of_ble_eq_true rfl⟩ ⟨Nat.le_refl _, Nat.le_refl _⟩) hS (fun H locs hW hS => ?_)
      cases hm
      exact r_iret C0 hr hlocks hW hS dX8_errorBits_38
    · rw [if_pos h10] at hm
      refine lv_bipush (v := (-4)) hx hb dX8_errorBits_22 (by decide) ?_
      refine lv_goto (tgt := 38) hx hb dX8_errorBits_24 (by decide) ?_
      cases hm
      exact r_iret C0 hr hlocks hW hS dX8_errorBits_38
set_option maxHeartbeats 4000000 in
set_option maxRecDepth 100000 in
theorem b_X8_fault {l : Launch} {D : va_G} {ca : Nat → ClassId} {A : Nat → Prop} {N : Nat} {σ : zS} {v0 : Nat} {v1 : Int32} {r0 : Int32} {σ' : zS} (hm : m_X8_fault N σ v0 v1 = some (r0, σ')) : Met l yX8_fault (.code yX8_fault cX8_fault 2 (some .int) :: wsL_law) ({ frames := 7, cells := 0, slots := 0, locals := 157 } : Room) (va_Pc [.ref v0, .int v1] (zP D ca A σ)) (zQi r0 D ca A σ') 0 0 A := by
  refine zMk (by decide +kernel) (Nat.le_of_ble_eq_true rfl) ?_
  intro p e s m below meth c C0 hr hlocks hin hW ls hl
  have hx := C0.1
  have hb := C0.2.1
  have hS : va_S A s.heap s.heap [] := va_S.rf
  have hl : lv_has ls 2 [(0, .ref v0), (1, .int v1)] := hl
  unfold m_X8_fault at hm
  refine lv_iload_n hx hb dX8_fault_0 rfl (lv_at hl 1 rfl) ?_
  refine lv_iconst (v := 2) hx hb dX8_fault_1 (by decide) ?_
  replace hm := ob hm; obtain ⟨x2, e1, hm⟩ := hm
  refine z_calli (z_runS (As := [.int v1, .int 2]) (rest := []) C0 ls_X8_78 (b_X8_within e1) hW hS rfl hl.1 rfl (Nat.le_of_ble_eq_true rfl) dX8_fault_2 rfl rfl ⟨Nat.le_of_ble_eq_true rfl, Nat.le_of_ble_eq_true rfl⟩ ⟨Nat.le_refl _, Nat.le_refl _⟩) hS (fun H locs hW hS => ?_)
  refine lv_if_ne (tgt := 10) hx hb dX8_fault_5 (by decide) (fun h3 => ?_) (fun h3 => ?_)
  · rw [if_neg h3] at hm
    refine lv_aload_n hx hb dX8_fault_10 rfl (lv_at hl 0 rfl) ?_
    replace hm := ob hm; obtain ⟨a4, e5, hm⟩ := hm
    refine r_getA C0 hW fl_X8_40 e5 dX8_fault_11 ?_
    refine lv_aload_n hx hb dX8_fault_14 rfl (lv_at hl 0 rfl) ?_
    replace hm := ob hm; obtain ⟨a6, e7, hm⟩ := hm
    refine r_getA C0 hW fl_X8_26 e7 dX8_fault_15 ?_
    refine lv_aload_n hx hb dX8_fault_18 rfl (lv_at hl 0 rfl) ?_
    replace hm := ob hm; obtain ⟨a8, e9, hm⟩ := hm
    refine r_getA C0 hW fl_X8_10 e9 dX8_fault_19 ?_
    replace hm := ob hm; obtain ⟨u10, e11, hm⟩ := hm
    replace hm := ob hm; obtain ⟨σ13, e12, hm⟩ := hm
    refine z_callv (z_runV (As := [.ref a6, .ref a8]) (rest := []) (ci := 7) rfl rfl C0 lv_X8_201 (b_X7_run e12) hW hS e11 rfl hl.1 rfl (Nat.le_of_ble_eq_true rfl) dX8_fault_22 rfl rfl ⟨Nat.le_of_ble_eq_true rfl, Nat.le_of_ble_eq_true rfl⟩ ⟨Nat.le_refl _, Nat.le_refl _⟩) hS (fun H locs hW hS => ?_)
    refine lv_aload_n hx hb dX8_fault_25 rfl (lv_at hl 0 rfl) ?_
    replace hm := ob hm; obtain ⟨a14, e15, hm⟩ := hm
    refine r_getA C0 hW fl_X8_40 e15 dX8_fault_26 ?_
    replace hm := ob hm; obtain ⟨x16, e17, hm⟩ := hm
    refine r_getI C0 hW fl_X8_205 e17 dX8_fault_29 ?_
    refine lv_if_eq (tgt := 51) hx hb dX8_fault_32 (by decide) (fun h18 => ?_) (fun h18 => ?_)
    · rw [if_pos h18] at hm
      refine lv_bipush (v := (-4)) hx hb dX8_fault_51 (by decide) ?_
      obtain ⟨hq8, hq9⟩ := Prod.mk.inj (Option.some.inj hm); subst hq8; subst hq9
      exact r_iret C0 hr hlocks hW hS dX8_fault_53
    · rw [if_neg h18] at hm
      refine lv_iload_n hx hb dX8_fault_35 rfl (lv_at hl 1 rfl) ?_
      refine lv_iconst (v := 2) hx hb dX8_fault_36 (by decide) ?_
      refine lv_icmp_ne (tgt := 54) hx hb dX8_fault_37 (by decide) (fun h19 => ?_) (fun h19 => ?_)
      · rw [if_neg h19] at hm
        refine lv_iload_n hx hb dX8_fault_54 rfl (lv_at hl 1 rfl) ?_
        refine lv_if_ne (tgt := 66) hx hb dX8_fault_55 (by decide) (fun h20 => ?_) (fun h20 => ?_)
        · rw [if_neg h20] at hm
          refine lv_iload_n hx hb dX8_fault_66 rfl (lv_at hl 1 rfl) ?_
          refine lv_iconst (v := 1) hx hb dX8_fault_67 (by decide) ?_
          refine lv_icmp_ne (tgt := 81) hx hb dX8_fault_68 (by decide) (fun h21 => ?_) (fun h21 => ?_)
          · rw [if_neg h21] at hm
            refine lv_aload_n hx hb dX8_fault_81 rfl (lv_at hl 0 rfl) ?_
            replace hm := ob hm; obtain ⟨a22, e23, hm⟩ := hm
            refine r_getA C0 hW fl_X8_40 e23 dX8_fault_82 ?_
            replace hm := ob hm; obtain ⟨x24, e25, hm⟩ := hm
            refine r_getI C0 hW fl_X8_211 e25 dX8_fault_85 ?_
            obtain ⟨hq8, hq9⟩ := Prod.mk.inj (Option.some.inj hm); subst hq8; subst hq9
            exact r_iret C0 hr hlocks hW hS dX8_fault_88
          · rw [if_pos h21] at hm
            refine lv_aload_n hx hb dX8_fault_71 rfl (lv_at hl 0 rfl) ?_
            replace hm := ob hm; obtain ⟨a26, e27, hm⟩ := hm
            refine r_getA C0 hW fl_X8_40 e27 dX8_fault_72 ?_
            replace hm := ob hm; obtain ⟨x28, e29, hm⟩ := hm
            refine r_getI C0 hW fl_X8_205 e29 dX8_fault_75 ?_
            refine lv_goto (tgt := 88) hx hb dX8_fault_78 (by decide) ?_
            obtain ⟨hq8, hq9⟩ := Prod.mk.inj (Option.some.inj hm); subst hq8; subst hq9
            exact r_iret C0 hr hlocks hW hS dX8_fault_88
        · rw [if_pos h20] at hm
          refine lv_aload_n hx hb dX8_fault_58 rfl (lv_at hl 0 rfl) ?_
          replace hm := ob hm; obtain ⟨a30, e31, hm⟩ := hm
          refine r_getA C0 hW fl_X8_40 e31 dX8_fault_59 ?_
          replace hm := ob hm; obtain ⟨x32, e33, hm⟩ := hm
          refine r_getI C0 hW fl_X8_208 e33 dX8_fault_62 ?_
          obtain ⟨hq8, hq9⟩ := Prod.mk.inj (Option.some.inj hm); subst hq8; subst hq9
          exact r_iret C0 hr hlocks hW hS dX8_fault_65
      · rw [if_pos h19] at hm
        refine lv_aload_n hx hb dX8_fault_40 rfl (lv_at hl 0 rfl) ?_
        replace hm := ob hm; obtain ⟨a34, e35, hm⟩ := hm
        refine r_getA C0 hW fl_X8_40 e35 dX8_fault_41 ?_
        replace hm := ob hm; obtain ⟨x36, e37, hm⟩ := hm
        refine r_getI C0 hW fl_X8_205 e37 dX8_fault_44 ?_
        refine lv_iconst (v := 1) hx hb dX8_fault_47 (by decide) ?_
        refine lv_icmp_ne (tgt := 54) hx hb dX8_fault_48 (by decide) (fun h38 => ?_) (fun h38 => ?_)
        · rw [if_neg h38] at hm
          refine lv_iload_n hx hb dX8_fault_54 rfl (lv_at hl 1 rfl) ?_
          refine lv_if_ne (tgt := 66) hx hb dX8_fault_55 (by decide) (fun h39 => ?_) (fun h39 => ?_)
          · rw [if_neg h39] at hm
            refine lv_iload_n hx hb dX8_fault_66 rfl (lv_at hl 1 rfl) ?_
            refine lv_iconst (v := 1) hx hb dX8_fault_67 (by decide) ?_
            refine lv_icmp_ne (tgt := 81) hx hb dX8_fault_68 (by decide) (fun h40 => ?_) (fun h40 => ?_)
            · rw [if_neg h40] at hm
              refine lv_aload_n hx hb dX8_fault_81 rfl (lv_at hl 0 rfl) ?_
              replace hm := ob hm; obtain ⟨a41, e42, hm⟩ := hm
              refine r_getA C0 hW fl_X8_40 e42 dX8_fault_82 ?_
              replace hm := ob hm; obtain ⟨x43, e44, hm⟩ := hm
              refine r_getI C0 hW fl_X8_211 e44 dX8_fault_85 ?_
              obtain ⟨hq8, hq9⟩ := Prod.mk.inj (Option.some.inj hm); subst hq8; subst hq9
              exact r_iret C0 hr hlocks hW hS dX8_fault_88
            · rw [if_pos h40] at hm
              refine lv_aload_n hx hb dX8_fault_71 rfl (lv_at hl 0 rfl) ?_
              replace hm := ob hm; obtain ⟨a45, e46, hm⟩ := hm
              refine r_getA C0 hW fl_X8_40 e46 dX8_fault_72 ?_
              replace hm := ob hm; obtain ⟨x47, e48, hm⟩ := hm
              refine r_getI C0 hW fl_X8_205 e48 dX8_fault_75 ?_
              refine lv_goto (tgt := 88) hx hb dX8_fault_78 (by decide) ?_
              obtain ⟨hq8, hq9⟩ := Prod.mk.inj (Option.some.inj hm); subst hq8; subst hq9
              exact r_iret C0 hr hlocks hW hS dX8_fault_88
          · rw [if_pos h39] at hm
            refine lv_aload_n hx hb dX8_fault_58 rfl (lv_at hl 0 rfl) ?_
            replace hm := ob hm; obtain ⟨a49, e50, hm⟩ := hm
            refine r_getA C0 hW fl_X8_40 e50 dX8_fault_59 ?_
            replace hm := ob hm; obtain ⟨x51, e52, hm⟩ := hm
            refine r_getI C0 hW fl_X8_208 e52 dX8_fault_62 ?_
            obtain ⟨hq8, hq9⟩ := Prod.mk.inj (Option.some.inj hm); subst hq8; subst hq9
            exact r_iret C0 hr hlocks hW hS dX8_fault_65
        · rw [if_pos h38] at hm
          refine lv_bipush (v := (-4)) hx hb dX8_fault_51 (by decide) ?_
          obtain ⟨hq8, hq9⟩ := Prod.mk.inj (Option.some.inj hm); subst hq8; subst hq9
          exact r_iret C0 hr hlocks hW hS dX8_fault_53
  · rw [if_pos h3] at hm
    refine lv_iconst (v := (-1)) hx hb dX8_fault_8 (by decide) ?_
    obtain ⟨hq8, hq9⟩ := Prod.mk.inj (Option.some.inj hm); subst hq8; subst hq9
    exact r_iret C0 hr hlocks hW hS dX8_fault_9
set_option maxHeartbeats 4000000 in
set_option maxRecDepth 100000 in
theorem b_X8_has {l : Launch} {D : va_G} {ca : Nat → ClassId} {A : Nat → Prop} {N : Nat} {σ : zS} {v0 : Nat} {v1 : Int32} {v2 : Int32} {v3 : Int32} {r0 : Int32} (hm : m_X8_has N σ v0 v1 v2 v3 = some r0) : Met l yX8_has (.code yX8_has cX8_has 6 (some .int) :: wsL_law) ({ frames := 3, cells := 0, slots := 0, locals := 62 } : Room) (va_Pc [.ref v0, .int v1, .int v2, .int v3] (zP D ca A σ)) (zQi r0 D ca A σ) 0 0 A := by
  refine zMk (by decide +kernel) (Nat.le_of_ble_eq_true rfl) ?_
  intro p e s m below meth c C0 hr hlocks hin hW ls hl
  have hx := C0.1
  have hb := C0.2.1
  have hS : va_S A s.heap s.heap [] := va_S.rf
  have hl : lv_has ls 6 [(0, .ref v0), (1, .int v1), (2, .int v2), (3, .int v3)] := hl
  unfold m_X8_has at hm
  refine lv_aload_n hx hb dX8_has_0 rfl (lv_at hl 0 rfl) ?_
  replace hm := ob hm; obtain ⟨a1, e2, hm⟩ := hm
  refine r_getA C0 hW fl_X8_10 e2 dX8_has_1 ?_
  refine lv_iload_n hx hb dX8_has_4 rfl (lv_at hl 1 rfl) ?_
  replace hm := ob hm; obtain ⟨u3, e4, hm⟩ := hm
  replace hm := ob hm; obtain ⟨r6, e5, hm⟩ := hm
  refine z_callq (z_runV (As := [.int v1]) (rest := []) (ci := 4) rfl rfl C0 lv_X8_74 (b_X4_find e5) hW hS e4 rfl hl.1 rfl (Nat.le_of_ble_eq_true rfl) dX8_has_5 rfl rfl ⟨Nat.le_of_ble_eq_true rfl, Nat.le_of_ble_eq_true rfl⟩ ⟨Nat.le_refl _, Nat.le_refl _⟩) hS (fun H locs hW hS => ?_)
  replace hm := oe hm; rcases hm with ⟨hn, hm⟩ | ⟨a7, hn, hm⟩
  · subst hn
    refine lv_astoreN (lv' := [(4, .null), (0, .ref v0), (1, .int v1), (2, .int v2), (3, .int v3)]) hx hb dX8_has_8 hl (by decide) rfl (fun ls hl => ?_)
    refine lv_aloadN hx hb dX8_has_10 (lv_at hl 0 rfl) ?_
    refine lv_ifnullN (tgt := 30) hx hb dX8_has_12 (by decide) ?_
    refine lv_iconst (v := (-1)) hx hb dX8_has_30 (by decide) ?_
    cases hm
    exact r_iret C0 hr hlocks hW hS dX8_has_31
  · subst hn
    refine lv_astore (lv' := [(4, .ref a7), (0, .ref v0), (1, .int v1), (2, .int v2), (3, .int v3)]) hx hb dX8_has_8 hl (by decide) rfl (fun ls hl => ?_)
    refine lv_aload hx hb dX8_has_10 (lv_at hl 0 rfl) ?_
    refine lv_ifnull hx hb dX8_has_12 ?_
    refine lv_iload_n hx hb dX8_has_15 rfl (lv_at hl 3 rfl) ?_
    replace hm := ob hm; obtain ⟨x9, e8, hm⟩ := hm
    refine z_calli (z_runS (As := [.int v2]) (rest := []) C0 ls_X8_100 (b_X8_isThing e8) hW hS rfl hl.1 rfl (Nat.le_of_ble_eq_true rfl) dX8_has_16 rfl rfl ⟨Nat.le_of_ble_eq_true rfl, Nat.le_of_ble_eq_true rfl⟩ ⟨Nat.le_refl _, Nat.le_refl _⟩) hS (fun H locs hW hS => ?_)
    refine lv_if_eq (tgt := 30) hx hb dX8_has_19 (by decide) (fun h10 => ?_) (fun h10 => ?_)
    · rw [if_pos h10] at hm
      refine lv_iconst (v := (-1)) hx hb dX8_has_30 (by decide) ?_
      cases hm
      exact r_iret C0 hr hlocks hW hS dX8_has_31
    · rw [if_neg h10] at hm
      refine lv_iload_n hx hb dX8_has_22 rfl (lv_at hl 4 rfl) ?_
      refine lv_iconst (v := 1) hx hb dX8_has_23 (by decide) ?_
      replace hm := ob hm; obtain ⟨x12, e11, hm⟩ := hm
      refine z_calli (z_runS (As := [.int v3, .int 1]) (rest := []) C0 ls_X8_78 (b_X8_within e11) hW hS rfl hl.1 rfl (Nat.le_of_ble_eq_true rfl) dX8_has_24 rfl rfl ⟨Nat.le_of_ble_eq_true rfl, Nat.le_of_ble_eq_true rfl⟩ ⟨Nat.le_refl _, Nat.le_refl _⟩) hS (fun H locs hW hS => ?_)
      refine lv_if_ne (tgt := 32) hx hb dX8_has_27 (by decide) (fun h13 => ?_) (fun h13 => ?_)
      · rw [if_neg h13] at hm
        refine lv_iload_n hx hb dX8_has_32 rfl (lv_at hl 4 rfl) ?_
        replace hm := ob hm; obtain ⟨y26, e28, hm⟩ := hm
        have J54_14 : ∀ (H : Heap) (locs : List Loc) (ls : Array Slot), zW D ca A σ H → va_S A s.heap H locs → lv_has ls 6 [] → W p l e ({ frames := 3, cells := 0, slots := 0, locals := 62 } : Room) s m (List.toArray [.ref v0, .int v1, .int v2, .int v3]) below meth c H locs 0 0 (MQ below (zQi r0 D ca A σ) (List.toArray [.ref v0, .int v1, .int v2, .int v3]) s 0 0 A) (F0 m 54 ls [.int y26]) := by
          intro H locs ls hW hS hl
          refine lv_istore (lv' := [(5, .int y26)]) hx hb dX8_has_54 hl (by decide) rfl (fun ls hl => ?_)
          refine lv_iload hx hb dX8_has_56 (lv_at hl 0 rfl) ?_
          refine lv_if_eq (tgt := 65) hx hb dX8_has_58 (by decide) (fun h27 => ?_) (fun h27 => ?_)
          · rw [if_pos h27] at hm
            refine lv_iconst (v := 0) hx hb dX8_has_65 (by decide) ?_
            cases hm
            exact r_iret C0 hr hlocks hW hS dX8_has_66
          · rw [if_neg h27] at hm
            refine lv_iconst (v := 1) hx hb dX8_has_61 (by decide) ?_
            refine lv_goto (tgt := 66) hx hb dX8_has_62 (by decide) ?_
            cases hm
            exact r_iret C0 hr hlocks hW hS dX8_has_66
        clear hm
        have hm := e28
        clear e28
        refine lv_if_ne (tgt := 45) hx hb dX8_has_33 (by decide) (fun h14 => ?_) (fun h14 => ?_)
        · rw [if_neg h14] at hm
          refine lv_aload hx hb dX8_has_45 (lv_at hl 0 rfl) ?_
          replace hm := ob hm; obtain ⟨a16, e17, hm⟩ := hm
          refine r_getA C0 hW fl_X8_88 e17 dX8_has_47 ?_
          refine lv_iload_n hx hb dX8_has_50 rfl (lv_at hl 3 rfl) ?_
          replace hm := ob hm; obtain ⟨u18, e19, hm⟩ := hm
          replace hm := ob hm; obtain ⟨x21, e20, hm⟩ := hm
          refine z_calli (z_runV (As := [.int v2]) (rest := []) (ci := 3) rfl rfl C0 lv_X8_111 (b_X3_staysWith e20) hW hS e19 rfl hl.1 rfl (Nat.le_of_ble_eq_true rfl) dX8_has_51 rfl rfl ⟨Nat.le_of_ble_eq_true rfl, Nat.le_of_ble_eq_true rfl⟩ ⟨Nat.le_refl _, Nat.le_refl _⟩) hS (fun H locs hW hS => ?_)
          have hq1 := Option.some.inj hm; subst hq1
          exact J54_14 _ _ _ hW hS (lv_sub hl [] rfl)
        · rw [if_pos h14] at hm
          refine lv_aload hx hb dX8_has_36 (lv_at hl 0 rfl) ?_
          refine lv_iload_n hx hb dX8_has_38 rfl (lv_at hl 3 rfl) ?_
          replace hm := ob hm; obtain ⟨u22, e23, hm⟩ := hm
          replace hm := ob hm; obtain ⟨x25, e24, hm⟩ := hm
          refine z_calli (z_runV (As := [.int v2]) (rest := []) (ci := 5) rfl rfl C0 lv_X8_108 (b_X5_saw e24) hW hS e23 rfl hl.1 rfl (Nat.le_of_ble_eq_true rfl) dX8_has_39 rfl rfl ⟨Nat.le_of_ble_eq_true rfl, Nat.le_of_ble_eq_true rfl⟩ ⟨Nat.le_refl _, Nat.le_refl _⟩) hS (fun H locs hW hS => ?_)
          refine lv_goto (tgt := 54) hx hb dX8_has_42 (by decide) ?_
          have hq1 := Option.some.inj hm; subst hq1
          exact J54_14 _ _ _ hW hS (lv_sub hl [] rfl)
      · rw [if_pos h13] at hm
        refine lv_iconst (v := (-1)) hx hb dX8_has_30 (by decide) ?_
        cases hm
        exact r_iret C0 hr hlocks hW hS dX8_has_31
set_option maxHeartbeats 4000000 in
set_option maxRecDepth 100000 in
theorem b_X8_hash {l : Launch} {D : va_G} {ca : Nat → ClassId} {A : Nat → Prop} {N : Nat} {σ : zS} {v0 : Nat} {v1 : Int32} {v2 : Int32} {r0 : Int32} (hm : m_X8_hash N σ v0 v1 v2 = some r0) : Met l yX8_hash (.code yX8_hash cX8_hash 3 (some .int) :: wsL_law) ({ frames := 1, cells := 0, slots := 0, locals := 22 } : Room) (va_Pc [.ref v0, .int v1, .int v2] (zP D ca A σ)) (zQi r0 D ca A σ) 0 0 A := by
  refine zMk (by decide +kernel) (Nat.le_of_ble_eq_true rfl) ?_
  intro p e s m below meth c C0 hr hlocks hin hW ls hl
  have hx := C0.1
  have hb := C0.2.1
  have hS : va_S A s.heap s.heap [] := va_S.rf
  have hl : lv_has ls 3 [(0, .ref v0), (1, .int v1), (2, .int v2)] := hl
  unfold m_X8_hash at hm
  refine lv_iload_n hx hb dX8_hash_0 rfl (lv_at hl 1 rfl) ?_
  replace hm := ob hm; obtain ⟨x2, e1, hm⟩ := hm
  refine z_calli (z_runS (As := [.int v1]) (rest := []) C0 ls_X8_100 (b_X8_isThing e1) hW hS rfl hl.1 rfl (Nat.le_of_ble_eq_true rfl) dX8_hash_1 rfl rfl ⟨Nat.le_of_ble_eq_true rfl, Nat.le_of_ble_eq_true rfl⟩ ⟨Nat.le_refl _, Nat.le_refl _⟩) hS (fun H locs hW hS => ?_)
  refine lv_if_eq (tgt := 16) hx hb dX8_hash_4 (by decide) (fun h3 => ?_) (fun h3 => ?_)
  · rw [if_pos h3] at hm
    refine lv_iconst (v := (-1)) hx hb dX8_hash_16 (by decide) ?_
    cases hm
    exact r_iret C0 hr hlocks hW hS dX8_hash_17
  · rw [if_neg h3] at hm
    refine lv_iload_n hx hb dX8_hash_7 rfl (lv_at hl 2 rfl) ?_
    refine lv_bipush (v := 9) hx hb dX8_hash_8 (by decide) ?_
    replace hm := ob hm; obtain ⟨x5, e4, hm⟩ := hm
    refine z_calli (z_runS (As := [.int v2, .int 9]) (rest := []) C0 ls_X8_78 (b_X8_within e4) hW hS rfl hl.1 rfl (Nat.le_of_ble_eq_true rfl) dX8_hash_10 rfl rfl ⟨Nat.le_of_ble_eq_true rfl, Nat.le_of_ble_eq_true rfl⟩ ⟨Nat.le_refl _, Nat.le_refl _⟩) hS (fun H locs hW hS => ?_)
    refine lv_if_ne (tgt := 18) hx hb dX8_hash_13 (by decide) (fun h6 => ?_) (fun h6 => ?_)
    · rw [if_neg h6] at hm
      refine lv_iload_n hx hb dX8_hash_18 rfl (lv_at hl 1 rfl) ?_
      refine lv_iload_n hx hb dX8_hash_19 rfl (lv_at hl 2 rfl) ?_
      replace hm := ob hm; obtain ⟨x8, e7, hm⟩ := hm
      refine z_calli (z_runS (As := [.int v1, .int v2]) (rest := []) C0 ls_X8_104 (b_X8_hashOf e7) hW hS rfl hl.1 rfl (Nat.le_of_ble_eq_true rfl) dX8_hash_20 rfl rfl ⟨Nat.le_of_ble_eq_true rfl, Nat.le_of_ble_eq_true rfl⟩ ⟨Nat.le_refl _, Nat.le_refl _⟩) hS (fun H locs hW hS => ?_)
      cases hm
      exact r_iret C0 hr hlocks hW hS dX8_hash_23
    · rw [if_pos h6] at hm
      refine lv_iconst (v := (-1)) hx hb dX8_hash_16 (by decide) ?_
      cases hm
      exact r_iret C0 hr hlocks hW hS dX8_hash_17
set_option maxHeartbeats 4000000 in
set_option maxRecDepth 100000 in
theorem b_X8_keptAt {l : Launch} {D : va_G} {ca : Nat → ClassId} {A : Nat → Prop} {N : Nat} {σ : zS} {v0 : Nat} {v1 : Int32} {v2 : Int32} {r0 : Int32} (hm : m_X8_keptAt N σ v0 v1 v2 = some r0) : Met l yX8_keptAt (.code yX8_keptAt cX8_keptAt 4 (some .int) :: wsL_law) ({ frames := 1, cells := 0, slots := 0, locals := 21 } : Room) (va_Pc [.ref v0, .int v1, .int v2] (zP D ca A σ)) (zQi r0 D ca A σ) 0 0 A := by
  refine zMk (by decide +kernel) (Nat.le_of_ble_eq_true rfl) ?_
  intro p e s m below meth c C0 hr hlocks hin hW ls hl
  have hx := C0.1
  have hb := C0.2.1
  have hS : va_S A s.heap s.heap [] := va_S.rf
  have hl : lv_has ls 4 [(0, .ref v0), (1, .int v1), (2, .int v2)] := hl
  unfold m_X8_keptAt at hm
  refine lv_aload_n hx hb dX8_keptAt_0 rfl (lv_at hl 0 rfl) ?_
  replace hm := ob hm; obtain ⟨a1, e2, hm⟩ := hm
  refine r_getA C0 hW fl_X8_10 e2 dX8_keptAt_1 ?_
  refine lv_iload_n hx hb dX8_keptAt_4 rfl (lv_at hl 1 rfl) ?_
  replace hm := ob hm; obtain ⟨u3, e4, hm⟩ := hm
  replace hm := ob hm; obtain ⟨r6, e5, hm⟩ := hm
  refine z_callq (z_runV (As := [.int v1]) (rest := []) (ci := 4) rfl rfl C0 lv_X8_74 (b_X4_find e5) hW hS e4 rfl hl.1 rfl (Nat.le_of_ble_eq_true rfl) dX8_keptAt_5 rfl rfl ⟨Nat.le_of_ble_eq_true rfl, Nat.le_of_ble_eq_true rfl⟩ ⟨Nat.le_refl _, Nat.le_refl _⟩) hS (fun H locs hW hS => ?_)
  replace hm := oe hm; rcases hm with ⟨hn, hm⟩ | ⟨a7, hn, hm⟩
  · subst hn
    refine lv_astore_nN (lv' := [(3, .null), (0, .ref v0), (1, .int v1), (2, .int v2)]) hx hb dX8_keptAt_8 rfl hl (by decide) rfl (fun ls hl => ?_)
    refine lv_aload_nN hx hb dX8_keptAt_9 rfl (lv_at hl 0 rfl) ?_
    refine lv_ifnonnullN hx hb dX8_keptAt_10 ?_
    refine lv_iconst (v := (-1)) hx hb dX8_keptAt_13 (by decide) ?_
    refine lv_goto (tgt := 25) hx hb dX8_keptAt_14 (by decide) ?_
    cases hm
    exact r_iret C0 hr hlocks hW hS dX8_keptAt_25
  · subst hn
    refine lv_astore_n (lv' := [(3, .ref a7), (0, .ref v0), (1, .int v1), (2, .int v2)]) hx hb dX8_keptAt_8 rfl hl (by decide) rfl (fun ls hl => ?_)
    refine lv_aload_n hx hb dX8_keptAt_9 rfl (lv_at hl 0 rfl) ?_
    refine lv_ifnonnull (tgt := 17) hx hb dX8_keptAt_10 (by decide) ?_
    refine lv_aload_n hx hb dX8_keptAt_17 rfl (lv_at hl 0 rfl) ?_
    replace hm := ob hm; obtain ⟨a8, e9, hm⟩ := hm
    refine r_getA C0 hW fl_X8_88 e9 dX8_keptAt_18 ?_
    refine lv_iload_n hx hb dX8_keptAt_21 rfl (lv_at hl 3 rfl) ?_
    replace hm := ob hm; obtain ⟨u10, e11, hm⟩ := hm
    replace hm := ob hm; obtain ⟨x13, e12, hm⟩ := hm
    refine z_calli (z_runV (As := [.int v2]) (rest := []) (ci := 3) rfl rfl C0 lv_X8_91 (b_X3_partAt e12) hW hS e11 rfl hl.1 rfl (Nat.le_of_ble_eq_true rfl) dX8_keptAt_22 rfl rfl ⟨Nat.le_of_ble_eq_true rfl, Nat.le_of_ble_eq_true rfl⟩ ⟨Nat.le_refl _, Nat.le_refl _⟩) hS (fun H locs hW hS => ?_)
    cases hm
    exact r_iret C0 hr hlocks hW hS dX8_keptAt_25
set_option maxHeartbeats 4000000 in
set_option maxRecDepth 100000 in
theorem b_X8_logAt {l : Launch} {D : va_G} {ca : Nat → ClassId} {A : Nat → Prop} {N : Nat} {σ : zS} {v0 : Nat} {v1 : Int32} {v2 : Int32} {r0 : Int32} (hm : m_X8_logAt N σ v0 v1 v2 = some r0) : Met l yX8_logAt (.code yX8_logAt cX8_logAt 3 (some .int) :: wsL_law) ({ frames := 1, cells := 0, slots := 0, locals := 22 } : Room) (va_Pc [.ref v0, .int v1, .int v2] (zP D ca A σ)) (zQi r0 D ca A σ) 0 0 A := by
  refine zMk (by decide +kernel) (Nat.le_of_ble_eq_true rfl) ?_
  intro p e s m below meth c C0 hr hlocks hin hW ls hl
  have hx := C0.1
  have hb := C0.2.1
  have hS : va_S A s.heap s.heap [] := va_S.rf
  have hl : lv_has ls 3 [(0, .ref v0), (1, .int v1), (2, .int v2)] := hl
  unfold m_X8_logAt at hm
  refine lv_iload_n hx hb dX8_logAt_0 rfl (lv_at hl 1 rfl) ?_
  refine lv_if_lt (tgt := 12) hx hb dX8_logAt_1 (by decide) (fun h1 => ?_) (fun h1 => ?_)
  · rw [if_pos h1] at hm
    refine lv_iconst (v := (-1)) hx hb dX8_logAt_12 (by decide) ?_
    cases hm
    exact r_iret C0 hr hlocks hW hS dX8_logAt_13
  · rw [if_neg h1] at hm
    refine lv_iload_n hx hb dX8_logAt_4 rfl (lv_at hl 2 rfl) ?_
    refine lv_iconst (v := 2) hx hb dX8_logAt_5 (by decide) ?_
    replace hm := ob hm; obtain ⟨x3, e2, hm⟩ := hm
    refine z_calli (z_runS (As := [.int v2, .int 2]) (rest := []) C0 ls_X8_78 (b_X8_within e2) hW hS rfl hl.1 rfl (Nat.le_of_ble_eq_true rfl) dX8_logAt_6 rfl rfl ⟨Nat.le_of_ble_eq_true rfl, Nat.le_of_ble_eq_true rfl⟩ ⟨Nat.le_refl _, Nat.le_refl _⟩) hS (fun H locs hW hS => ?_)
    refine lv_if_ne (tgt := 14) hx hb dX8_logAt_9 (by decide) (fun h4 => ?_) (fun h4 => ?_)
    · rw [if_neg h4] at hm
      refine lv_aload_n hx hb dX8_logAt_14 rfl (lv_at hl 0 rfl) ?_
      replace hm := ob hm; obtain ⟨a5, e6, hm⟩ := hm
      refine r_getA C0 hW fl_X8_10 e6 dX8_logAt_15 ?_
      replace hm := ob hm; obtain ⟨a7, e8, hm⟩ := hm
      refine r_getA C0 hW fl_X8_114 e8 dX8_logAt_18 ?_
      refine lv_iload_n hx hb dX8_logAt_21 rfl (lv_at hl 1 rfl) ?_
      refine lv_iload_n hx hb dX8_logAt_22 rfl (lv_at hl 2 rfl) ?_
      replace hm := ob hm; obtain ⟨u9, e10, hm⟩ := hm
      replace hm := ob hm; obtain ⟨x12, e11, hm⟩ := hm
      refine z_calli (z_runV (As := [.int v1, .int v2]) (rest := []) (ci := 2) rfl rfl C0 lv_X8_118 (b_X2_entry e11) hW hS e10 rfl hl.1 rfl (Nat.le_of_ble_eq_true rfl) dX8_logAt_23 rfl rfl ⟨Nat.le_of_ble_eq_true rfl, Nat.le_of_ble_eq_true rfl⟩ ⟨Nat.le_refl _, Nat.le_refl _⟩) hS (fun H locs hW hS => ?_)
      cases hm
      exact r_iret C0 hr hlocks hW hS dX8_logAt_26
    · rw [if_pos h4] at hm
      refine lv_iconst (v := (-1)) hx hb dX8_logAt_12 (by decide) ?_
      cases hm
      exact r_iret C0 hr hlocks hW hS dX8_logAt_13
set_option maxHeartbeats 4000000 in
set_option maxRecDepth 100000 in
theorem b_X8_merge {l : Launch} {D : va_G} {ca : Nat → ClassId} {A : Nat → Prop} {N : Nat} {σ : zS} {v0 : Nat} {v1 : Int32} {v2 : Int32} {r0 : Int32} {σ' : zS} (hm : m_X8_merge N σ v0 v1 v2 = some (r0, σ')) : Met l yX8_merge (.code yX8_merge cX8_merge 3 (some .int) :: wsL_law) ({ frames := 7, cells := 0, slots := 0, locals := 155 } : Room) (va_Pc [.ref v0, .int v1, .int v2] (zP D ca A σ)) (zQi r0 D ca A σ') 0 0 A := by
  refine zMk (by decide +kernel) (Nat.le_of_ble_eq_true rfl) ?_
  intro p e s m below meth c C0 hr hlocks hin hW ls hl
  have hx := C0.1
  have hb := C0.2.1
  have hS : va_S A s.heap s.heap [] := va_S.rf
  have hl : lv_has ls 3 [(0, .ref v0), (1, .int v1), (2, .int v2)] := hl
  unfold m_X8_merge at hm
  refine lv_aload_n hx hb dX8_merge_0 rfl (lv_at hl 0 rfl) ?_
  replace hm := ob hm; obtain ⟨a1, e2, hm⟩ := hm
  refine r_getA C0 hW fl_X8_33 e2 dX8_merge_1 ?_
  refine lv_bipush (v := 109) hx hb dX8_merge_4 (by decide) ?_
  refine lv_iload_n hx hb dX8_merge_6 rfl (lv_at hl 1 rfl) ?_
  refine lv_iload_n hx hb dX8_merge_7 rfl (lv_at hl 2 rfl) ?_
  replace hm := ob hm; obtain ⟨u3, e4, hm⟩ := hm
  replace hm := ob hm; obtain ⟨σ6, e5, hm⟩ := hm
  refine z_callv (z_runV (As := [.int 109, .int v1, .int v2]) (rest := []) (ci := 0) rfl rfl C0 lv_X8_51 (b_X0_put e5) hW hS e4 rfl hl.1 rfl (Nat.le_of_ble_eq_true rfl) dX8_merge_8 rfl rfl ⟨Nat.le_of_ble_eq_true rfl, Nat.le_of_ble_eq_true rfl⟩ ⟨Nat.le_refl _, Nat.le_refl _⟩) hS (fun H locs hW hS => ?_)
  refine lv_aload_n hx hb dX8_merge_11 rfl (lv_at hl 0 rfl) ?_
  replace hm := ob hm; obtain ⟨u7, e8, hm⟩ := hm
  replace hm := o2 hm; obtain ⟨x11, σ10, e9, hm⟩ := hm
  refine z_calli (z_runV (As := []) (rest := []) (ci := 8) rfl rfl C0 lv_X8_55 (b_X8_change e9) hW hS e8 rfl hl.1 rfl (Nat.le_of_ble_eq_true rfl) dX8_merge_12 rfl rfl ⟨Nat.le_of_ble_eq_true rfl, Nat.le_of_ble_eq_true rfl⟩ ⟨Nat.le_refl _, Nat.le_refl _⟩) hS (fun H locs hW hS => ?_)
  obtain ⟨hq8, hq9⟩ := Prod.mk.inj (Option.some.inj hm); subst hq8; subst hq9
  exact r_iret C0 hr hlocks hW hS dX8_merge_15
set_option maxHeartbeats 4000000 in
set_option maxRecDepth 100000 in
theorem b_X8_play {l : Launch} {D : va_G} {ca : Nat → ClassId} {A : Nat → Prop} {N : Nat} {σ : zS} {v0 : Nat} {r0 : Int32} {σ' : zS} (hm : m_X8_play N σ v0 = some (r0, σ')) : Met l yX8_play (.code yX8_play cX8_play 1 (some .int) :: wsL_law) ({ frames := 7, cells := 0, slots := 0, locals := 157 } : Room) (va_Pc [.ref v0] (zP D ca A σ)) (zQi r0 D ca A σ') 0 0 A := by
  refine zMk (by decide +kernel) (Nat.le_of_ble_eq_true rfl) ?_
  intro p e s m below meth c C0 hr hlocks hin hW ls hl
  have hx := C0.1
  have hb := C0.2.1
  have hS : va_S A s.heap s.heap [] := va_S.rf
  have hl : lv_has ls 1 [(0, .ref v0)] := hl
  unfold m_X8_play at hm
  refine lv_aload_n hx hb dX8_play_0 rfl (lv_at hl 0 rfl) ?_
  replace hm := ob hm; obtain ⟨a1, e2, hm⟩ := hm
  refine r_getA C0 hW fl_X8_40 e2 dX8_play_1 ?_
  refine lv_aload_n hx hb dX8_play_4 rfl (lv_at hl 0 rfl) ?_
  replace hm := ob hm; obtain ⟨a3, e4, hm⟩ := hm
  refine r_getA C0 hW fl_X8_26 e4 dX8_play_5 ?_
  refine lv_aload_n hx hb dX8_play_8 rfl (lv_at hl 0 rfl) ?_
  replace hm := ob hm; obtain ⟨a5, e6, hm⟩ := hm
  refine r_getA C0 hW fl_X8_10 e6 dX8_play_9 ?_
  replace hm := ob hm; obtain ⟨u7, e8, hm⟩ := hm
  replace hm := ob hm; obtain ⟨σ10, e9, hm⟩ := hm
  refine z_callv (z_runV (As := [.ref a3, .ref a5]) (rest := []) (ci := 7) rfl rfl C0 lv_X8_201 (b_X7_run e9) hW hS e8 rfl hl.1 rfl (Nat.le_of_ble_eq_true rfl) dX8_play_12 rfl rfl ⟨Nat.le_of_ble_eq_true rfl, Nat.le_of_ble_eq_true rfl⟩ ⟨Nat.le_refl _, Nat.le_refl _⟩) hS (fun H locs hW hS => ?_)
  refine lv_aload_n hx hb dX8_play_15 rfl (lv_at hl 0 rfl) ?_
  replace hm := ob hm; obtain ⟨a11, e12, hm⟩ := hm
  refine r_getA C0 hW fl_X8_40 e12 dX8_play_16 ?_
  replace hm := ob hm; obtain ⟨x13, e14, hm⟩ := hm
  refine r_getI C0 hW fl_X8_205 e14 dX8_play_19 ?_
  refine lv_if_eq (tgt := 28) hx hb dX8_play_22 (by decide) (fun h15 => ?_) (fun h15 => ?_)
  · rw [if_pos h15] at hm
    refine lv_aload_n hx hb dX8_play_28 rfl (lv_at hl 0 rfl) ?_
    replace hm := ob hm; obtain ⟨a16, e17, hm⟩ := hm
    refine r_getA C0 hW fl_X8_19 e17 dX8_play_29 ?_
    refine lv_aload_n hx hb dX8_play_32 rfl (lv_at hl 0 rfl) ?_
    replace hm := ob hm; obtain ⟨a18, e19, hm⟩ := hm
    refine r_getA C0 hW fl_X8_10 e19 dX8_play_33 ?_
    replace hm := ob hm; obtain ⟨u20, e21, hm⟩ := hm
    replace hm := ob hm; obtain ⟨σ23, e22, hm⟩ := hm
    refine z_callv (z_runV (As := [.ref a18]) (rest := []) (ci := 1) rfl rfl C0 lv_X8_67 (b_X1_record e22) hW hS e21 rfl hl.1 rfl (Nat.le_of_ble_eq_true rfl) dX8_play_36 rfl rfl ⟨Nat.le_of_ble_eq_true rfl, Nat.le_of_ble_eq_true rfl⟩ ⟨Nat.le_refl _, Nat.le_refl _⟩) hS (fun H locs hW hS => ?_)
    refine lv_aload_n hx hb dX8_play_39 rfl (lv_at hl 0 rfl) ?_
    replace hm := ob hm; obtain ⟨a24, e25, hm⟩ := hm
    refine r_getA C0 hW fl_X8_10 e25 dX8_play_40 ?_
    refine lv_aload_n hx hb dX8_play_43 rfl (lv_at hl 0 rfl) ?_
    replace hm := ob hm; obtain ⟨a26, e27, hm⟩ := hm
    refine r_getA C0 hW fl_X8_40 e27 dX8_play_44 ?_
    replace hm := ob hm; obtain ⟨a28, e29, hm⟩ := hm
    refine r_getA C0 hW fl_X8_214 e29 dX8_play_47 ?_
    replace hm := ob hm; obtain ⟨u30, e31, hm⟩ := hm
    replace hm := ob hm; obtain ⟨σ33, e32, hm⟩ := hm
    refine z_callv (z_runV (As := [.ref a28]) (rest := []) (ci := 4) rfl rfl C0 lv_X8_217 (b_X4_copyFrom e32) hW hS e31 rfl hl.1 rfl (Nat.le_of_ble_eq_true rfl) dX8_play_50 rfl rfl ⟨Nat.le_of_ble_eq_true rfl, Nat.le_of_ble_eq_true rfl⟩ ⟨Nat.le_refl _, Nat.le_refl _⟩) hS (fun H locs hW hS => ?_)
    refine lv_aload_n hx hb dX8_play_53 rfl (lv_at hl 0 rfl) ?_
    replace hm := ob hm; obtain ⟨a34, e35, hm⟩ := hm
    refine r_getA C0 hW fl_X8_40 e35 dX8_play_54 ?_
    replace hm := ob hm; obtain ⟨x36, e37, hm⟩ := hm
    refine r_getI C0 hW fl_X8_219 e37 dX8_play_57 ?_
    obtain ⟨hq8, hq9⟩ := Prod.mk.inj (Option.some.inj hm); subst hq8; subst hq9
    exact r_iret C0 hr hlocks hW hS dX8_play_60
  · rw [if_neg h15] at hm
    refine lv_bipush (v := (-2)) hx hb dX8_play_25 (by decide) ?_
    obtain ⟨hq8, hq9⟩ := Prod.mk.inj (Option.some.inj hm); subst hq8; subst hq9
    exact r_iret C0 hr hlocks hW hS dX8_play_27
set_option maxHeartbeats 4000000 in
set_option maxRecDepth 100000 in
theorem b_X8_raises {l : Launch} {D : va_G} {ca : Nat → ClassId} {A : Nat → Prop} {N : Nat} {σ : zS} {v0 : Nat} {v1 : Int32} {r0 : Int32} (hm : m_X8_raises N σ v0 v1 = some r0) : Met l yX8_raises (.code yX8_raises cX8_raises 3 (some .int) :: wsL_law) ({ frames := 3, cells := 0, slots := 0, locals := 66 } : Room) (va_Pc [.ref v0, .int v1] (zP D ca A σ)) (zQi r0 D ca A σ) 0 0 A := by
  refine zMk (by decide +kernel) (Nat.le_of_ble_eq_true rfl) ?_
  intro p e s m below meth c C0 hr hlocks hin hW ls hl
  have hx := C0.1
  have hb := C0.2.1
  have hS : va_S A s.heap s.heap [] := va_S.rf
  have hl : lv_has ls 3 [(0, .ref v0), (1, .int v1)] := hl
  unfold m_X8_raises at hm
  refine lv_aload_n hx hb dX8_raises_0 rfl (lv_at hl 0 rfl) ?_
  replace hm := ob hm; obtain ⟨a1, e2, hm⟩ := hm
  refine r_getA C0 hW fl_X8_10 e2 dX8_raises_1 ?_
  refine lv_iload_n hx hb dX8_raises_4 rfl (lv_at hl 1 rfl) ?_
  replace hm := ob hm; obtain ⟨u3, e4, hm⟩ := hm
  replace hm := ob hm; obtain ⟨r6, e5, hm⟩ := hm
  refine z_callq (z_runV (As := [.int v1]) (rest := []) (ci := 4) rfl rfl C0 lv_X8_74 (b_X4_find e5) hW hS e4 rfl hl.1 rfl (Nat.le_of_ble_eq_true rfl) dX8_raises_5 rfl rfl ⟨Nat.le_of_ble_eq_true rfl, Nat.le_of_ble_eq_true rfl⟩ ⟨Nat.le_refl _, Nat.le_refl _⟩) hS (fun H locs hW hS => ?_)
  replace hm := oe hm; rcases hm with ⟨hn, hm⟩ | ⟨a7, hn, hm⟩
  · subst hn
    refine lv_astore_nN (lv' := [(2, .null), (0, .ref v0), (1, .int v1)]) hx hb dX8_raises_8 rfl hl (by decide) rfl (fun ls hl => ?_)
    refine lv_aload_nN hx hb dX8_raises_9 rfl (lv_at hl 0 rfl) ?_
    refine lv_ifnonnullN hx hb dX8_raises_10 ?_
    refine lv_iconst (v := (-1)) hx hb dX8_raises_13 (by decide) ?_
    refine lv_goto (tgt := 24) hx hb dX8_raises_14 (by decide) ?_
    cases hm
    exact r_iret C0 hr hlocks hW hS dX8_raises_24
  · subst hn
    refine lv_astore_n (lv' := [(2, .ref a7), (0, .ref v0), (1, .int v1)]) hx hb dX8_raises_8 rfl hl (by decide) rfl (fun ls hl => ?_)
    refine lv_aload_n hx hb dX8_raises_9 rfl (lv_at hl 0 rfl) ?_
    refine lv_ifnonnull (tgt := 17) hx hb dX8_raises_10 (by decide) ?_
    refine lv_aload_n hx hb dX8_raises_17 rfl (lv_at hl 0 rfl) ?_
    replace hm := ob hm; obtain ⟨a8, e9, hm⟩ := hm
    refine r_getA C0 hW fl_X8_88 e9 dX8_raises_18 ?_
    replace hm := ob hm; obtain ⟨u10, e11, hm⟩ := hm
    replace hm := ob hm; obtain ⟨x13, e12, hm⟩ := hm
    refine z_calli (z_runV (As := []) (rest := []) (ci := 3) rfl rfl C0 lv_X8_169 (b_X3_lowestRaising e12) hW hS e11 rfl hl.1 rfl (Nat.le_of_ble_eq_true rfl) dX8_raises_21 rfl rfl ⟨Nat.le_of_ble_eq_true rfl, Nat.le_of_ble_eq_true rfl⟩ ⟨Nat.le_refl _, Nat.le_refl _⟩) hS (fun H locs hW hS => ?_)
    cases hm
    exact r_iret C0 hr hlocks hW hS dX8_raises_24
set_option maxHeartbeats 4000000 in
set_option maxRecDepth 100000 in
theorem b_X8_reset {l : Launch} {D : va_G} {ca : Nat → ClassId} {A : Nat → Prop} {N : Nat} {σ : zS} {v0 : Nat} {v1 : Int32} {r0 : Int32} {σ' : zS} (hm : m_X8_reset N σ v0 v1 = some (r0, σ')) : Met l yX8_reset (.code yX8_reset cX8_reset 2 (some .int) :: wsL_law) ({ frames := 7, cells := 0, slots := 0, locals := 155 } : Room) (va_Pc [.ref v0, .int v1] (zP D ca A σ)) (zQi r0 D ca A σ') 0 0 A := by
  refine zMk (by decide +kernel) (Nat.le_of_ble_eq_true rfl) ?_
  intro p e s m below meth c C0 hr hlocks hin hW ls hl
  have hx := C0.1
  have hb := C0.2.1
  have hS : va_S A s.heap s.heap [] := va_S.rf
  have hl : lv_has ls 2 [(0, .ref v0), (1, .int v1)] := hl
  unfold m_X8_reset at hm
  refine lv_aload_n hx hb dX8_reset_0 rfl (lv_at hl 0 rfl) ?_
  replace hm := ob hm; obtain ⟨a1, e2, hm⟩ := hm
  refine r_getA C0 hW fl_X8_33 e2 dX8_reset_1 ?_
  refine lv_bipush (v := 122) hx hb dX8_reset_4 (by decide) ?_
  refine lv_iload_n hx hb dX8_reset_6 rfl (lv_at hl 1 rfl) ?_
  refine lv_iconst (v := 0) hx hb dX8_reset_7 (by decide) ?_
  replace hm := ob hm; obtain ⟨u3, e4, hm⟩ := hm
  replace hm := ob hm; obtain ⟨σ6, e5, hm⟩ := hm
  refine z_callv (z_runV (As := [.int 122, .int v1, .int 0]) (rest := []) (ci := 0) rfl rfl C0 lv_X8_51 (b_X0_put e5) hW hS e4 rfl hl.1 rfl (Nat.le_of_ble_eq_true rfl) dX8_reset_8 rfl rfl ⟨Nat.le_of_ble_eq_true rfl, Nat.le_of_ble_eq_true rfl⟩ ⟨Nat.le_refl _, Nat.le_refl _⟩) hS (fun H locs hW hS => ?_)
  refine lv_aload_n hx hb dX8_reset_11 rfl (lv_at hl 0 rfl) ?_
  replace hm := ob hm; obtain ⟨u7, e8, hm⟩ := hm
  replace hm := o2 hm; obtain ⟨x11, σ10, e9, hm⟩ := hm
  refine z_calli (z_runV (As := []) (rest := []) (ci := 8) rfl rfl C0 lv_X8_55 (b_X8_change e9) hW hS e8 rfl hl.1 rfl (Nat.le_of_ble_eq_true rfl) dX8_reset_12 rfl rfl ⟨Nat.le_of_ble_eq_true rfl, Nat.le_of_ble_eq_true rfl⟩ ⟨Nat.le_refl _, Nat.le_refl _⟩) hS (fun H locs hW hS => ?_)
  obtain ⟨hq8, hq9⟩ := Prod.mk.inj (Option.some.inj hm); subst hq8; subst hq9
  exact r_iret C0 hr hlocks hW hS dX8_reset_15
set_option maxHeartbeats 4000000 in
set_option maxRecDepth 100000 in
theorem b_X8_sawAt {l : Launch} {D : va_G} {ca : Nat → ClassId} {A : Nat → Prop} {N : Nat} {σ : zS} {v0 : Nat} {v1 : Int32} {v2 : Int32} {v3 : Int32} {r0 : Int32} (hm : m_X8_sawAt N σ v0 v1 v2 v3 = some r0) : Met l yX8_sawAt (.code yX8_sawAt cX8_sawAt 6 (some .int) :: wsL_law) ({ frames := 2, cells := 0, slots := 0, locals := 41 } : Room) (va_Pc [.ref v0, .int v1, .int v2, .int v3] (zP D ca A σ)) (zQi r0 D ca A σ) 0 0 A := by
  refine zMk (by decide +kernel) (Nat.le_of_ble_eq_true rfl) ?_
  intro p e s m below meth c C0 hr hlocks hin hW ls hl
  have hx := C0.1
  have hb := C0.2.1
  have hS : va_S A s.heap s.heap [] := va_S.rf
  have hl : lv_has ls 6 [(0, .ref v0), (1, .int v1), (2, .int v2), (3, .int v3)] := hl
  unfold m_X8_sawAt at hm
  refine lv_aload_n hx hb dX8_sawAt_0 rfl (lv_at hl 0 rfl) ?_
  replace hm := ob hm; obtain ⟨a1, e2, hm⟩ := hm
  refine r_getA C0 hW fl_X8_10 e2 dX8_sawAt_1 ?_
  refine lv_iload_n hx hb dX8_sawAt_4 rfl (lv_at hl 1 rfl) ?_
  replace hm := ob hm; obtain ⟨u3, e4, hm⟩ := hm
  replace hm := ob hm; obtain ⟨r6, e5, hm⟩ := hm
  refine z_callq (z_runV (As := [.int v1]) (rest := []) (ci := 4) rfl rfl C0 lv_X8_74 (b_X4_find e5) hW hS e4 rfl hl.1 rfl (Nat.le_of_ble_eq_true rfl) dX8_sawAt_5 rfl rfl ⟨Nat.le_of_ble_eq_true rfl, Nat.le_of_ble_eq_true rfl⟩ ⟨Nat.le_refl _, Nat.le_refl _⟩) hS (fun H locs hW hS => ?_)
  replace hm := oe hm; rcases hm with ⟨hn, hm⟩ | ⟨a7, hn, hm⟩
  · subst hn
    refine lv_astoreN (lv' := [(4, .null), (0, .ref v0), (1, .int v1), (2, .int v2), (3, .int v3)]) hx hb dX8_sawAt_8 hl (by decide) rfl (fun ls hl => ?_)
    refine lv_aloadN hx hb dX8_sawAt_10 (lv_at hl 0 rfl) ?_
    refine lv_ifnullN (tgt := 27) hx hb dX8_sawAt_12 (by decide) ?_
    refine lv_iconst (v := (-1)) hx hb dX8_sawAt_27 (by decide) ?_
    cases hm
    exact r_iret C0 hr hlocks hW hS dX8_sawAt_28
  · subst hn
    refine lv_astore (lv' := [(4, .ref a7), (0, .ref v0), (1, .int v1), (2, .int v2), (3, .int v3)]) hx hb dX8_sawAt_8 hl (by decide) rfl (fun ls hl => ?_)
    refine lv_aload hx hb dX8_sawAt_10 (lv_at hl 0 rfl) ?_
    refine lv_ifnull hx hb dX8_sawAt_12 ?_
    refine lv_iload_n hx hb dX8_sawAt_15 rfl (lv_at hl 3 rfl) ?_
    refine lv_if_lt (tgt := 27) hx hb dX8_sawAt_16 (by decide) (fun h8 => ?_) (fun h8 => ?_)
    · rw [if_pos h8] at hm
      refine lv_iconst (v := (-1)) hx hb dX8_sawAt_27 (by decide) ?_
      cases hm
      exact r_iret C0 hr hlocks hW hS dX8_sawAt_28
    · rw [if_neg h8] at hm
      refine lv_iload_n hx hb dX8_sawAt_19 rfl (lv_at hl 4 rfl) ?_
      refine lv_iconst (v := 1) hx hb dX8_sawAt_20 (by decide) ?_
      replace hm := ob hm; obtain ⟨x10, e9, hm⟩ := hm
      refine z_calli (z_runS (As := [.int v3, .int 1]) (rest := []) C0 ls_X8_78 (b_X8_within e9) hW hS rfl hl.1 rfl (Nat.le_of_ble_eq_true rfl) dX8_sawAt_21 rfl rfl ⟨Nat.le_of_ble_eq_true rfl, Nat.le_of_ble_eq_true rfl⟩ ⟨Nat.le_refl _, Nat.le_refl _⟩) hS (fun H locs hW hS => ?_)
      refine lv_if_ne (tgt := 29) hx hb dX8_sawAt_24 (by decide) (fun h11 => ?_) (fun h11 => ?_)
      · rw [if_neg h11] at hm
        refine lv_aload hx hb dX8_sawAt_29 (lv_at hl 0 rfl) ?_
        refine lv_iload_n hx hb dX8_sawAt_31 rfl (lv_at hl 3 rfl) ?_
        replace hm := ob hm; obtain ⟨u12, e13, hm⟩ := hm
        replace hm := ob hm; obtain ⟨x15, e14, hm⟩ := hm
        refine z_calli (z_runV (As := [.int v2]) (rest := []) (ci := 5) rfl rfl C0 lv_X8_94 (b_X5_thingAt e14) hW hS e13 rfl hl.1 rfl (Nat.le_of_ble_eq_true rfl) dX8_sawAt_32 rfl rfl ⟨Nat.le_of_ble_eq_true rfl, Nat.le_of_ble_eq_true rfl⟩ ⟨Nat.le_refl _, Nat.le_refl _⟩) hS (fun H locs hW hS => ?_)
        refine lv_istore (lv' := [(5, .int x15), (4, .ref a7), (0, .ref v0), (1, .int v1), (2, .int v2), (3, .int v3)]) hx hb dX8_sawAt_35 hl (by decide) rfl (fun ls hl => ?_)
        refine lv_iload hx hb dX8_sawAt_37 (lv_at hl 0 rfl) ?_
        refine lv_iconst (v := (-1)) hx hb dX8_sawAt_39 (by decide) ?_
        refine lv_icmp_ne (tgt := 46) hx hb dX8_sawAt_40 (by decide) (fun h16 => ?_) (fun h16 => ?_)
        · rw [if_neg h16] at hm
          refine lv_iload_n hx hb dX8_sawAt_46 rfl (lv_at hl 5 rfl) ?_
          refine lv_if_ne (tgt := 55) hx hb dX8_sawAt_47 (by decide) (fun h17 => ?_) (fun h17 => ?_)
          · rw [if_neg h17] at hm
            refine lv_aload hx hb dX8_sawAt_55 (lv_at hl 1 rfl) ?_
            refine lv_iload hx hb dX8_sawAt_57 (lv_at hl 0 rfl) ?_
            replace hm := ob hm; obtain ⟨u18, e19, hm⟩ := hm
            replace hm := ob hm; obtain ⟨x21, e20, hm⟩ := hm
            refine z_calli (z_runV (As := [.int x15]) (rest := []) (ci := 5) rfl rfl C0 lv_X8_97 (b_X5_timeOf e20) hW hS e19 rfl hl.1 rfl (Nat.le_of_ble_eq_true rfl) dX8_sawAt_59 rfl rfl ⟨Nat.le_of_ble_eq_true rfl, Nat.le_of_ble_eq_true rfl⟩ ⟨Nat.le_refl _, Nat.le_refl _⟩) hS (fun H locs hW hS => ?_)
            cases hm
            exact r_iret C0 hr hlocks hW hS dX8_sawAt_62
          · rw [if_pos h17] at hm
            refine lv_iload hx hb dX8_sawAt_50 (lv_at hl 0 rfl) ?_
            refine lv_goto (tgt := 62) hx hb dX8_sawAt_52 (by decide) ?_
            cases hm
            exact r_iret C0 hr hlocks hW hS dX8_sawAt_62
        · rw [if_pos h16] at hm
          refine lv_bipush (v := (-4)) hx hb dX8_sawAt_43 (by decide) ?_
          cases hm
          exact r_iret C0 hr hlocks hW hS dX8_sawAt_45
      · rw [if_pos h11] at hm
        refine lv_iconst (v := (-1)) hx hb dX8_sawAt_27 (by decide) ?_
        cases hm
        exact r_iret C0 hr hlocks hW hS dX8_sawAt_28
set_option maxHeartbeats 4000000 in
set_option maxRecDepth 100000 in
theorem b_X8_table {l : Launch} {D : va_G} {ca : Nat → ClassId} {A : Nat → Prop} {N : Nat} {σ : zS} {v0 : Nat} {v1 : Int32} {v2 : Int32} {r0 : Int32} {σ' : zS} (hm : m_X8_table N σ v0 v1 v2 = some (r0, σ')) : Met l yX8_table (.code yX8_table cX8_table 3 (some .int) :: wsL_law) ({ frames := 7, cells := 0, slots := 0, locals := 155 } : Room) (va_Pc [.ref v0, .int v1, .int v2] (zP D ca A σ)) (zQi r0 D ca A σ') 0 0 A := by
  refine zMk (by decide +kernel) (Nat.le_of_ble_eq_true rfl) ?_
  intro p e s m below meth c C0 hr hlocks hin hW ls hl
  have hx := C0.1
  have hb := C0.2.1
  have hS : va_S A s.heap s.heap [] := va_S.rf
  have hl : lv_has ls 3 [(0, .ref v0), (1, .int v1), (2, .int v2)] := hl
  unfold m_X8_table at hm
  refine lv_aload_n hx hb dX8_table_0 rfl (lv_at hl 0 rfl) ?_
  replace hm := ob hm; obtain ⟨a1, e2, hm⟩ := hm
  refine r_getA C0 hW fl_X8_33 e2 dX8_table_1 ?_
  refine lv_bipush (v := 107) hx hb dX8_table_4 (by decide) ?_
  refine lv_iload_n hx hb dX8_table_6 rfl (lv_at hl 1 rfl) ?_
  refine lv_iload_n hx hb dX8_table_7 rfl (lv_at hl 2 rfl) ?_
  replace hm := ob hm; obtain ⟨u3, e4, hm⟩ := hm
  replace hm := ob hm; obtain ⟨σ6, e5, hm⟩ := hm
  refine z_callv (z_runV (As := [.int 107, .int v1, .int v2]) (rest := []) (ci := 0) rfl rfl C0 lv_X8_51 (b_X0_put e5) hW hS e4 rfl hl.1 rfl (Nat.le_of_ble_eq_true rfl) dX8_table_8 rfl rfl ⟨Nat.le_of_ble_eq_true rfl, Nat.le_of_ble_eq_true rfl⟩ ⟨Nat.le_refl _, Nat.le_refl _⟩) hS (fun H locs hW hS => ?_)
  refine lv_aload_n hx hb dX8_table_11 rfl (lv_at hl 0 rfl) ?_
  replace hm := ob hm; obtain ⟨u7, e8, hm⟩ := hm
  replace hm := o2 hm; obtain ⟨x11, σ10, e9, hm⟩ := hm
  refine z_calli (z_runV (As := []) (rest := []) (ci := 8) rfl rfl C0 lv_X8_55 (b_X8_change e9) hW hS e8 rfl hl.1 rfl (Nat.le_of_ble_eq_true rfl) dX8_table_12 rfl rfl ⟨Nat.le_of_ble_eq_true rfl, Nat.le_of_ble_eq_true rfl⟩ ⟨Nat.le_refl _, Nat.le_refl _⟩) hS (fun H locs hW hS => ?_)
  obtain ⟨hq8, hq9⟩ := Prod.mk.inj (Option.some.inj hm); subst hq8; subst hq9
  exact r_iret C0 hr hlocks hW hS dX8_table_15
set_option maxHeartbeats 4000000 in
set_option maxRecDepth 100000 in
theorem b_X8_tableOf {l : Launch} {D : va_G} {ca : Nat → ClassId} {A : Nat → Prop} {N : Nat} {σ : zS} {v0 : Nat} {v1 : Int32} {v2 : Int32} {r0 : Int32} (hm : m_X8_tableOf N σ v0 v1 v2 = some r0) : Met l yX8_tableOf (.code yX8_tableOf cX8_tableOf 4 (some .int) :: wsL_law) ({ frames := 5, cells := 0, slots := 0, locals := 107 } : Room) (va_Pc [.ref v0, .int v1, .int v2] (zP D ca A σ)) (zQi r0 D ca A σ) 0 0 A := by
  refine zMk (by decide +kernel) (Nat.le_of_ble_eq_true rfl) ?_
  intro p e s m below meth c C0 hr hlocks hin hW ls hl
  have hx := C0.1
  have hb := C0.2.1
  have hS : va_S A s.heap s.heap [] := va_S.rf
  have hl : lv_has ls 4 [(0, .ref v0), (1, .int v1), (2, .int v2)] := hl
  unfold m_X8_tableOf at hm
  refine lv_aload_n hx hb dX8_tableOf_0 rfl (lv_at hl 0 rfl) ?_
  replace hm := ob hm; obtain ⟨a1, e2, hm⟩ := hm
  refine r_getA C0 hW fl_X8_10 e2 dX8_tableOf_1 ?_
  refine lv_iload_n hx hb dX8_tableOf_4 rfl (lv_at hl 1 rfl) ?_
  replace hm := ob hm; obtain ⟨u3, e4, hm⟩ := hm
  replace hm := ob hm; obtain ⟨r6, e5, hm⟩ := hm
  refine z_callq (z_runV (As := [.int v1]) (rest := []) (ci := 4) rfl rfl C0 lv_X8_74 (b_X4_find e5) hW hS e4 rfl hl.1 rfl (Nat.le_of_ble_eq_true rfl) dX8_tableOf_5 rfl rfl ⟨Nat.le_of_ble_eq_true rfl, Nat.le_of_ble_eq_true rfl⟩ ⟨Nat.le_refl _, Nat.le_refl _⟩) hS (fun H locs hW hS => ?_)
  replace hm := oe hm; rcases hm with ⟨hn, hm⟩ | ⟨a7, hn, hm⟩
  · subst hn
    refine lv_astore_nN (lv' := [(3, .null), (0, .ref v0), (1, .int v1), (2, .int v2)]) hx hb dX8_tableOf_8 rfl hl (by decide) rfl (fun ls hl => ?_)
    refine lv_aload_nN hx hb dX8_tableOf_9 rfl (lv_at hl 0 rfl) ?_
    refine lv_ifnullN (tgt := 22) hx hb dX8_tableOf_10 (by decide) ?_
    refine lv_iconst (v := (-1)) hx hb dX8_tableOf_22 (by decide) ?_
    cases hm
    exact r_iret C0 hr hlocks hW hS dX8_tableOf_23
  · subst hn
    refine lv_astore_n (lv' := [(3, .ref a7), (0, .ref v0), (1, .int v1), (2, .int v2)]) hx hb dX8_tableOf_8 rfl hl (by decide) rfl (fun ls hl => ?_)
    refine lv_aload_n hx hb dX8_tableOf_9 rfl (lv_at hl 0 rfl) ?_
    refine lv_ifnull hx hb dX8_tableOf_10 ?_
    refine lv_iload_n hx hb dX8_tableOf_13 rfl (lv_at hl 3 rfl) ?_
    refine lv_bipush (v := 9) hx hb dX8_tableOf_14 (by decide) ?_
    replace hm := ob hm; obtain ⟨x9, e8, hm⟩ := hm
    refine z_calli (z_runS (As := [.int v2, .int 9]) (rest := []) C0 ls_X8_78 (b_X8_within e8) hW hS rfl hl.1 rfl (Nat.le_of_ble_eq_true rfl) dX8_tableOf_16 rfl rfl ⟨Nat.le_of_ble_eq_true rfl, Nat.le_of_ble_eq_true rfl⟩ ⟨Nat.le_refl _, Nat.le_refl _⟩) hS (fun H locs hW hS => ?_)
    refine lv_if_ne (tgt := 24) hx hb dX8_tableOf_19 (by decide) (fun h10 => ?_) (fun h10 => ?_)
    · rw [if_neg h10] at hm
      refine lv_aload_n hx hb dX8_tableOf_24 rfl (lv_at hl 0 rfl) ?_
      refine lv_iload_n hx hb dX8_tableOf_25 rfl (lv_at hl 3 rfl) ?_
      replace hm := ob hm; obtain ⟨u11, e12, hm⟩ := hm
      replace hm := ob hm; obtain ⟨x14, e13, hm⟩ := hm
      refine z_calli (z_runV (As := [.int v2]) (rest := []) (ci := 5) rfl rfl C0 lv_X8_82 (b_X5_property e13) hW hS e12 rfl hl.1 rfl (Nat.le_of_ble_eq_true rfl) dX8_tableOf_26 rfl rfl ⟨Nat.le_of_ble_eq_true rfl, Nat.le_of_ble_eq_true rfl⟩ ⟨Nat.le_refl _, Nat.le_refl _⟩) hS (fun H locs hW hS => ?_)
      cases hm
      exact r_iret C0 hr hlocks hW hS dX8_tableOf_29
    · rw [if_pos h10] at hm
      refine lv_iconst (v := (-1)) hx hb dX8_tableOf_22 (by decide) ?_
      cases hm
      exact r_iret C0 hr hlocks hW hS dX8_tableOf_23
set_option maxHeartbeats 4000000 in
set_option maxRecDepth 100000 in
theorem b_X8_type {l : Launch} {D : va_G} {ca : Nat → ClassId} {A : Nat → Prop} {N : Nat} {σ : zS} {v0 : Nat} {v1 : Int32} {r0 : Int32} {σ' : zS} (hm : m_X8_type N σ v0 v1 = some (r0, σ')) : Met l yX8_type (.code yX8_type cX8_type 2 (some .int) :: wsL_law) ({ frames := 1, cells := 0, slots := 0, locals := 21 } : Room) (va_Pc [.ref v0, .int v1] (zP D ca A σ)) (zQi r0 D ca A σ') 0 0 A := by
  refine zMk (by decide +kernel) (Nat.le_of_ble_eq_true rfl) ?_
  intro p e s m below meth c C0 hr hlocks hin hW ls hl
  have hx := C0.1
  have hb := C0.2.1
  have hS : va_S A s.heap s.heap [] := va_S.rf
  have hl : lv_has ls 2 [(0, .ref v0), (1, .int v1)] := hl
  unfold m_X8_type at hm
  refine lv_iload_n hx hb dX8_type_0 rfl (lv_at hl 1 rfl) ?_
  refine lv_bipush (v := 32) hx hb dX8_type_1 (by decide) ?_
  refine lv_icmp_lt (tgt := 12) hx hb dX8_type_3 (by decide) (fun h1 => ?_) (fun h1 => ?_)
  · rw [if_pos h1] at hm
    refine lv_iconst (v := (-1)) hx hb dX8_type_12 (by decide) ?_
    obtain ⟨hq8, hq9⟩ := Prod.mk.inj (Option.some.inj hm); subst hq8; subst hq9
    exact r_iret C0 hr hlocks hW hS dX8_type_13
  · rw [if_neg h1] at hm
    refine lv_iload_n hx hb dX8_type_6 rfl (lv_at hl 1 rfl) ?_
    refine lv_bipush (v := 126) hx hb dX8_type_7 (by decide) ?_
    refine lv_icmp_le (tgt := 14) hx hb dX8_type_9 (by decide) (fun h2 => ?_) (fun h2 => ?_)
    · rw [if_pos h2] at hm
      refine lv_aload_n hx hb dX8_type_14 rfl (lv_at hl 0 rfl) ?_
      replace hm := ob hm; obtain ⟨a3, e4, hm⟩ := hm
      refine r_getA C0 hW fl_X8_26 e4 dX8_type_15 ?_
      refine lv_iload_n hx hb dX8_type_18 rfl (lv_at hl 1 rfl) ?_
      refine r_i2c hx hb dX8_type_19 ?_
      replace hm := ob hm; obtain ⟨u5, e6, hm⟩ := hm
      replace hm := o2 hm; obtain ⟨x9, σ8, e7, hm⟩ := hm
      refine z_calli (z_runV (As := [.int (i2c v1)]) (rest := []) (ci := 6) rfl rfl C0 lv_X8_194 (b_X6_append e7) hW hS e6 rfl hl.1 rfl (Nat.le_of_ble_eq_true rfl) dX8_type_20 rfl rfl ⟨Nat.le_of_ble_eq_true rfl, Nat.le_of_ble_eq_true rfl⟩ ⟨Nat.le_refl _, Nat.le_refl _⟩) hS (fun H locs hW hS => ?_)
      refine lv_if_eq (tgt := 36) hx hb dX8_type_23 (by decide) (fun h10 => ?_) (fun h10 => ?_)
      · rw [if_pos h10] at hm
        refine lv_bipush (v := (-3)) hx hb dX8_type_36 (by decide) ?_
        obtain ⟨hq8, hq9⟩ := Prod.mk.inj (Option.some.inj hm); subst hq8; subst hq9
        exact r_iret C0 hr hlocks hW hS dX8_type_38
      · rw [if_neg h10] at hm
        refine lv_aload_n hx hb dX8_type_26 rfl (lv_at hl 0 rfl) ?_
        replace hm := ob hm; obtain ⟨a11, e12, hm⟩ := hm
        refine r_getA C0 hW fl_X8_26 e12 dX8_type_27 ?_
        replace hm := ob hm; obtain ⟨x13, e14, hm⟩ := hm
        refine r_getI C0 hW fl_X8_143 e14 dX8_type_30 ?_
        refine lv_goto (tgt := 38) hx hb dX8_type_33 (by decide) ?_
        obtain ⟨hq8, hq9⟩ := Prod.mk.inj (Option.some.inj hm); subst hq8; subst hq9
        exact r_iret C0 hr hlocks hW hS dX8_type_38
    · rw [if_neg h2] at hm
      refine lv_iconst (v := (-1)) hx hb dX8_type_12 (by decide) ?_
      obtain ⟨hq8, hq9⟩ := Prod.mk.inj (Option.some.inj hm); subst hq8; subst hq9
      exact r_iret C0 hr hlocks hW hS dX8_type_13
set_option maxHeartbeats 4000000 in
set_option maxRecDepth 100000 in
theorem b_X8_undo {l : Launch} {D : va_G} {ca : Nat → ClassId} {A : Nat → Prop} {N : Nat} {σ : zS} {v0 : Nat} {r0 : Int32} {σ' : zS} (hm : m_X8_undo N σ v0 = some (r0, σ')) : Met l yX8_undo (.code yX8_undo cX8_undo 1 (some .int) :: wsL_law) ({ frames := 5, cells := 0, slots := 0, locals := 128 } : Room) (va_Pc [.ref v0] (zP D ca A σ)) (zQi r0 D ca A σ') 0 0 A := by
  refine zMk (by decide +kernel) (Nat.le_of_ble_eq_true rfl) ?_
  intro p e s m below meth c C0 hr hlocks hin hW ls hl
  have hx := C0.1
  have hb := C0.2.1
  have hS : va_S A s.heap s.heap [] := va_S.rf
  have hl : lv_has ls 1 [(0, .ref v0)] := hl
  unfold m_X8_undo at hm
  refine lv_aload_n hx hb dX8_undo_0 rfl (lv_at hl 0 rfl) ?_
  replace hm := ob hm; obtain ⟨a1, e2, hm⟩ := hm
  refine r_getA C0 hW fl_X8_19 e2 dX8_undo_1 ?_
  replace hm := ob hm; obtain ⟨x3, e4, hm⟩ := hm
  refine r_getI C0 hW fl_X8_142 e4 dX8_undo_4 ?_
  refine lv_if_ne (tgt := 13) hx hb dX8_undo_7 (by decide) (fun h5 => ?_) (fun h5 => ?_)
  · rw [if_neg h5] at hm
    refine lv_aload_n hx hb dX8_undo_13 rfl (lv_at hl 0 rfl) ?_
    replace hm := ob hm; obtain ⟨a6, e7, hm⟩ := hm
    refine r_getA C0 hW fl_X8_19 e7 dX8_undo_14 ?_
    refine lv_aload_n hx hb dX8_undo_17 rfl (lv_at hl 0 rfl) ?_
    replace hm := ob hm; obtain ⟨a8, e9, hm⟩ := hm
    refine r_getA C0 hW fl_X8_10 e9 dX8_undo_18 ?_
    replace hm := ob hm; obtain ⟨u10, e11, hm⟩ := hm
    replace hm := ob hm; obtain ⟨σ13, e12, hm⟩ := hm
    refine z_callv (z_runV (As := [.ref a8]) (rest := []) (ci := 1) rfl rfl C0 lv_X8_191 (b_X1_restore e12) hW hS e11 rfl hl.1 rfl (Nat.le_of_ble_eq_true rfl) dX8_undo_21 rfl rfl ⟨Nat.le_of_ble_eq_true rfl, Nat.le_of_ble_eq_true rfl⟩ ⟨Nat.le_refl _, Nat.le_refl _⟩) hS (fun H locs hW hS => ?_)
    refine lv_aload_n hx hb dX8_undo_24 rfl (lv_at hl 0 rfl) ?_
    replace hm := ob hm; obtain ⟨a14, e15, hm⟩ := hm
    refine r_getA C0 hW fl_X8_19 e15 dX8_undo_25 ?_
    replace hm := ob hm; obtain ⟨x16, e17, hm⟩ := hm
    refine r_getI C0 hW fl_X8_142 e17 dX8_undo_28 ?_
    obtain ⟨hq8, hq9⟩ := Prod.mk.inj (Option.some.inj hm); subst hq8; subst hq9
    exact r_iret C0 hr hlocks hW hS dX8_undo_31
  · rw [if_pos h5] at hm
    refine lv_bipush (v := (-2)) hx hb dX8_undo_10 (by decide) ?_
    obtain ⟨hq8, hq9⟩ := Prod.mk.inj (Option.some.inj hm); subst hq8; subst hq9
    exact r_iret C0 hr hlocks hW hS dX8_undo_12
set_option maxHeartbeats 4000000 in
set_option maxRecDepth 100000 in
theorem b_X8_would {l : Launch} {D : va_G} {ca : Nat → ClassId} {A : Nat → Prop} {N : Nat} {σ : zS} {v0 : Nat} {v1 : Int32} {v2 : Int32} {r0 : Int32} {σ' : zS} (hm : m_X8_would N σ v0 v1 v2 = some (r0, σ')) : Met l yX8_would (.code yX8_would cX8_would 4 (some .int) :: wsL_law) ({ frames := 3, cells := 0, slots := 0, locals := 71 } : Room) (va_Pc [.ref v0, .int v1, .int v2] (zP D ca A σ)) (zQi r0 D ca A σ') 0 0 A := by
  refine zMk (by decide +kernel) (Nat.le_of_ble_eq_true rfl) ?_
  intro p e s m below meth c C0 hr hlocks hin hW ls hl
  have hx := C0.1
  have hb := C0.2.1
  have hS : va_S A s.heap s.heap [] := va_S.rf
  have hl : lv_has ls 4 [(0, .ref v0), (1, .int v1), (2, .int v2)] := hl
  unfold m_X8_would at hm
  refine lv_aload_n hx hb dX8_would_0 rfl (lv_at hl 0 rfl) ?_
  replace hm := ob hm; obtain ⟨a1, e2, hm⟩ := hm
  refine r_getA C0 hW fl_X8_10 e2 dX8_would_1 ?_
  refine lv_iload_n hx hb dX8_would_4 rfl (lv_at hl 1 rfl) ?_
  replace hm := ob hm; obtain ⟨u3, e4, hm⟩ := hm
  replace hm := ob hm; obtain ⟨r6, e5, hm⟩ := hm
  refine z_callq (z_runV (As := [.int v1]) (rest := []) (ci := 4) rfl rfl C0 lv_X8_74 (b_X4_find e5) hW hS e4 rfl hl.1 rfl (Nat.le_of_ble_eq_true rfl) dX8_would_5 rfl rfl ⟨Nat.le_of_ble_eq_true rfl, Nat.le_of_ble_eq_true rfl⟩ ⟨Nat.le_refl _, Nat.le_refl _⟩) hS (fun H locs hW hS => ?_)
  replace hm := oe hm; rcases hm with ⟨hn, hm⟩ | ⟨a7, hn, hm⟩
  · subst hn
    refine lv_astore_nN (lv' := [(3, .null), (0, .ref v0), (1, .int v1), (2, .int v2)]) hx hb dX8_would_8 rfl hl (by decide) rfl (fun ls hl => ?_)
    refine lv_aload_nN hx hb dX8_would_9 rfl (lv_at hl 0 rfl) ?_
    refine lv_ifnullN (tgt := 20) hx hb dX8_would_10 (by decide) ?_
    refine lv_iconst (v := (-1)) hx hb dX8_would_20 (by decide) ?_
    obtain ⟨hq8, hq9⟩ := Prod.mk.inj (Option.some.inj hm); subst hq8; subst hq9
    exact r_iret C0 hr hlocks hW hS dX8_would_21
  · subst hn
    refine lv_astore_n (lv' := [(3, .ref a7), (0, .ref v0), (1, .int v1), (2, .int v2)]) hx hb dX8_would_8 rfl hl (by decide) rfl (fun ls hl => ?_)
    refine lv_aload_n hx hb dX8_would_9 rfl (lv_at hl 0 rfl) ?_
    refine lv_ifnull hx hb dX8_would_10 ?_
    refine lv_iload_n hx hb dX8_would_13 rfl (lv_at hl 3 rfl) ?_
    replace hm := ob hm; obtain ⟨x9, e8, hm⟩ := hm
    refine z_calli (z_runS (As := [.int v2]) (rest := []) C0 ls_X8_100 (b_X8_isThing e8) hW hS rfl hl.1 rfl (Nat.le_of_ble_eq_true rfl) dX8_would_14 rfl rfl ⟨Nat.le_of_ble_eq_true rfl, Nat.le_of_ble_eq_true rfl⟩ ⟨Nat.le_refl _, Nat.le_refl _⟩) hS (fun H locs hW hS => ?_)
    refine lv_if_ne (tgt := 22) hx hb dX8_would_17 (by decide) (fun h10 => ?_) (fun h10 => ?_)
    · rw [if_neg h10] at hm
      refine lv_aload_n hx hb dX8_would_22 rfl (lv_at hl 1 rfl) ?_
      replace hm := ob hm; obtain ⟨a11, e12, hm⟩ := hm
      refine r_getA C0 hW fl_X8_47 e12 dX8_would_23 ?_
      refine lv_aload_n hx hb dX8_would_26 rfl (lv_at hl 0 rfl) ?_
      replace hm := ob hm; obtain ⟨a13, e14, hm⟩ := hm
      refine r_getA C0 hW fl_X8_88 e14 dX8_would_27 ?_
      replace hm := ob hm; obtain ⟨u15, e16, hm⟩ := hm
      replace hm := ob hm; obtain ⟨σ18, e17, hm⟩ := hm
      refine z_callv (z_runV (As := [.ref a13]) (rest := []) (ci := 3) rfl rfl C0 lv_X8_158 (b_X3_copyFrom e17) hW hS e16 rfl hl.1 rfl (Nat.le_of_ble_eq_true rfl) dX8_would_30 rfl rfl ⟨Nat.le_of_ble_eq_true rfl, Nat.le_of_ble_eq_true rfl⟩ ⟨Nat.le_refl _, Nat.le_refl _⟩) hS (fun H locs hW hS => ?_)
      refine lv_aload_n hx hb dX8_would_33 rfl (lv_at hl 1 rfl) ?_
      replace hm := ob hm; obtain ⟨a19, e20, hm⟩ := hm
      refine r_getA C0 hW fl_X8_47 e20 dX8_would_34 ?_
      refine lv_iload_n hx hb dX8_would_37 rfl (lv_at hl 3 rfl) ?_
      replace hm := ob hm; obtain ⟨u21, e22, hm⟩ := hm
      replace hm := ob hm; obtain ⟨σ24, e23, hm⟩ := hm
      refine z_callv (z_runV (As := [.int v2]) (rest := []) (ci := 3) rfl rfl C0 lv_X8_162 (b_X3_take e23) hW hS e22 rfl hl.1 rfl (Nat.le_of_ble_eq_true rfl) dX8_would_38 rfl rfl ⟨Nat.le_of_ble_eq_true rfl, Nat.le_of_ble_eq_true rfl⟩ ⟨Nat.le_refl _, Nat.le_refl _⟩) hS (fun H locs hW hS => ?_)
      refine lv_aload_n hx hb dX8_would_41 rfl (lv_at hl 1 rfl) ?_
      replace hm := ob hm; obtain ⟨a25, e26, hm⟩ := hm
      refine r_getA C0 hW fl_X8_47 e26 dX8_would_42 ?_
      replace hm := ob hm; obtain ⟨u27, e28, hm⟩ := hm
      replace hm := ob hm; obtain ⟨x30, e29, hm⟩ := hm
      refine z_calli (z_runV (As := []) (rest := []) (ci := 3) rfl rfl C0 lv_X8_166 (b_X3_told e29) hW hS e28 rfl hl.1 rfl (Nat.le_of_ble_eq_true rfl) dX8_would_45 rfl rfl ⟨Nat.le_of_ble_eq_true rfl, Nat.le_of_ble_eq_true rfl⟩ ⟨Nat.le_refl _, Nat.le_refl _⟩) hS (fun H locs hW hS => ?_)
      obtain ⟨hq8, hq9⟩ := Prod.mk.inj (Option.some.inj hm); subst hq8; subst hq9
      exact r_iret C0 hr hlocks hW hS dX8_would_48
    · rw [if_pos h10] at hm
      refine lv_iconst (v := (-1)) hx hb dX8_would_20 (by decide) ?_
      obtain ⟨hq8, hq9⟩ := Prod.mk.inj (Option.some.inj hm); subst hq8; subst hq9
      exact r_iret C0 hr hlocks hW hS dX8_would_21
