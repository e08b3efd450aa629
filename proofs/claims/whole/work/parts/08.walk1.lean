set_option maxHeartbeats 4000000 in
set_option maxRecDepth 100000 in
theorem b_X3_high {l : Launch} {D : va_G} {ca : Nat → ClassId} {A : Nat → Prop} {N : Nat} {σ : zS} {v0 : Nat} {r0 : Int32} (hm : m_X3_high N σ v0 = some r0) : Met l yX3_high (.code yX3_high cX3_high 1 (some .int) :: wsL_law) ({ frames := 1, cells := 0, slots := 0, locals := 26 } : Room) (va_Pc [.ref v0] (zP D ca A σ)) (zQi r0 D ca A σ) 0 0 A := by
  refine zMk (by decide +kernel) (Nat.le_of_ble_eq_true rfl) ?_
  intro p e s m below meth c C0 hr hlocks hin hW ls hl
  have hx := C0.1
  have hb := C0.2.1
  have hS : va_S A s.heap s.heap [] := va_S.rf
  have hl : lv_has ls 1 [(0, .ref v0)] := hl
  unfold m_X3_high at hm
  refine lv_aload_n hx hb dX3_high_0 rfl (lv_at hl 0 rfl) ?_
  replace hm := ob hm; obtain ⟨x1, e2, hm⟩ := hm
  refine r_getI C0 hW fl_X3_25 e2 dX3_high_1 ?_
  refine lv_sipush (v := 1000) hx hb dX3_high_4 (by decide) ?_
  refine r_min C0 lb_X3_51 hl.1 (Nat.le_of_ble_eq_true rfl) (Nat.le_of_ble_eq_true rfl) ⟨Nat.le_refl _, Nat.le_refl _⟩ dX3_high_7 ?_
  cases hm
  exact r_iret C0 hr hlocks hW hS dX3_high_10
set_option maxHeartbeats 4000000 in
set_option maxRecDepth 100000 in
theorem b_X3_isLike {l : Launch} {D : va_G} {ca : Nat → ClassId} {A : Nat → Prop} {N : Nat} {σ : zS} {v0 : Nat} {v1 : Nat} {r0 : Int32} (hm : m_X3_isLike N σ v0 v1 = some r0) : Met l yX3_isLike (.code yX3_isLike cX3_isLike 2 (some .boolean) :: wsL_law) ({ frames := 0, cells := 0, slots := 0, locals := 0 } : Room) (va_Pc [.ref v0, .ref v1] (zP D ca A σ)) (zQi r0 D ca A σ) 0 0 A := by
  refine zMk (by decide +kernel) (Nat.le_of_ble_eq_true rfl) ?_
  intro p e s m below meth c C0 hr hlocks hin hW ls hl
  have hx := C0.1
  have hb := C0.2.1
  have hS : va_S A s.heap s.heap [] := va_S.rf
  have hl : lv_has ls 2 [(0, .ref v0), (1, .ref v1)] := hl
  unfold m_X3_isLike at hm
  refine lv_aload_n hx hb dX3_isLike_0 rfl (lv_at hl 0 rfl) ?_
  replace hm := ob hm; obtain ⟨x1, e2, hm⟩ := hm
  refine r_getI C0 hW fl_X3_18 e2 dX3_isLike_1 ?_
  refine lv_aload_n hx hb dX3_isLike_4 rfl (lv_at hl 1 rfl) ?_
  replace hm := ob hm; obtain ⟨x3, e4, hm⟩ := hm
  refine r_getI C0 hW fl_X3_18 e4 dX3_isLike_5 ?_
  refine lv_icmp_ne (tgt := 26) hx hb dX3_isLike_8 (by decide) (fun h5 => ?_) (fun h5 => ?_)
  · rw [if_neg h5] at hm
    refine lv_iconst (v := 0) hx hb dX3_isLike_26 (by decide) ?_
    cases hm
    exact r_zret C0 hr rfl hlocks hW hS dX3_isLike_27
  · rw [if_pos h5] at hm
    refine lv_aload_n hx hb dX3_isLike_11 rfl (lv_at hl 0 rfl) ?_
    replace hm := ob hm; obtain ⟨x6, e7, hm⟩ := hm
    refine r_getI C0 hW fl_X3_22 e7 dX3_isLike_12 ?_
    refine lv_aload_n hx hb dX3_isLike_15 rfl (lv_at hl 1 rfl) ?_
    replace hm := ob hm; obtain ⟨x8, e9, hm⟩ := hm
    refine r_getI C0 hW fl_X3_22 e9 dX3_isLike_16 ?_
    refine lv_icmp_ne (tgt := 26) hx hb dX3_isLike_19 (by decide) (fun h10 => ?_) (fun h10 => ?_)
    · rw [if_neg h10] at hm
      refine lv_iconst (v := 0) hx hb dX3_isLike_26 (by decide) ?_
      cases hm
      exact r_zret C0 hr rfl hlocks hW hS dX3_isLike_27
    · rw [if_pos h10] at hm
      refine lv_iconst (v := 1) hx hb dX3_isLike_22 (by decide) ?_
      refine lv_goto (tgt := 27) hx hb dX3_isLike_23 (by decide) ?_
      cases hm
      exact r_zret C0 hr rfl hlocks hW hS dX3_isLike_27
set_option maxHeartbeats 4000000 in
set_option maxRecDepth 100000 in
theorem w_X3_placeOf_L2 {p : Program} {l : Launch} {e : Env} {s : State} {m : MethodId} {args : Array Value} {below : List Frame} {meth : Method} {c : Code} {D : va_G} {ca : Nat → ClassId} {A : Nat → Prop} {Q : State → Prop} (N : Nat) : ∀ (n : Nat) {σ : zS} {v0 : Nat} {v1 : Int32} {v2 : Int32} {y2 : Int32} {H : Heap} {locs : List Loc} {ls : Array Slot}, m_X3_placeOf_L2 N n σ v0 v1 v2 = some y2 → zC p s m args c RX3 cX3_placeOf 3 D ca A → zW D ca A σ H → va_S A s.heap H locs → lv_has ls 3 [(0, .ref v0), (1, .int v1), (2, .int v2)] → (∀ (H : Heap) (locs : List Loc) (ls : Array Slot), zW D ca A σ H → va_S A s.heap H locs → lv_has ls 3 [(2, .int y2)] → W p l e ({ frames := 0, cells := 0, slots := 0, locals := 0 } : Room) s m args below meth c H locs 0 0 Q (F0 m 32 ls [])) → W p l e ({ frames := 0, cells := 0, slots := 0, locals := 0 } : Room) s m args below meth c H locs 0 0 Q (F0 m 2 ls []) := by
  intro n
  induction n with
  | zero =>
    intro σ v0 v1 v2 y2 H locs ls hm C0 hW hS hl kk
    rw [m_X3_placeOf_L2] at hm
    cases hm
  | succ n ih =>
    intro σ v0 v1 v2 y2 H locs ls hm C0 hW hS hl kk
    rw [m_X3_placeOf_L2] at hm
    have hx := C0.1
    have hb := C0.2.1
    refine lv_iload_n hx hb dX3_placeOf_2 rfl (lv_at hl 2 rfl) ?_
    refine lv_aload_n hx hb dX3_placeOf_3 rfl (lv_at hl 0 rfl) ?_
    replace hm := ob hm; obtain ⟨x1, e2, hm⟩ := hm
    refine r_getI C0 hW fl_X3_31 e2 dX3_placeOf_4 ?_
    refine lv_icmp_ge (tgt := 32) hx hb dX3_placeOf_7 (by decide) (fun h3 => ?_) (fun h3 => ?_)
    · rw [if_pos h3] at hm
      cases hm
      exact kk _ _ _ hW hS (lv_sub hl [2] rfl)
    · rw [if_neg h3] at hm
      refine lv_iload_n hx hb dX3_placeOf_10 rfl (lv_at hl 2 rfl) ?_
      refine lv_bipush (v := 8) hx hb dX3_placeOf_11 (by decide) ?_
      refine lv_icmp_ge (tgt := 32) hx hb dX3_placeOf_13 (by decide) (fun h4 => ?_) (fun h4 => ?_)
      · rw [if_pos h4] at hm
        cases hm
        exact kk _ _ _ hW hS (lv_sub hl [2] rfl)
      · rw [if_neg h4] at hm
        refine lv_aload_n hx hb dX3_placeOf_16 rfl (lv_at hl 0 rfl) ?_
        replace hm := ob hm; obtain ⟨a5, e6, hm⟩ := hm
        refine r_getA C0 hW fl_X3_9 e6 dX3_placeOf_17 ?_
        refine lv_iload_n hx hb dX3_placeOf_20 rfl (lv_at hl 2 rfl) ?_
        replace hm := ob hm; obtain ⟨x7, e8, hm⟩ := hm
        refine r_aI C0 hW e8 dX3_placeOf_21 ?_
        refine lv_iload_n hx hb dX3_placeOf_22 rfl (lv_at hl 1 rfl) ?_
        refine lv_icmp_ge (tgt := 32) hx hb dX3_placeOf_23 (by decide) (fun h9 => ?_) (fun h9 => ?_)
        · rw [if_pos h9] at hm
          cases hm
          exact kk _ _ _ hW hS (lv_sub hl [2] rfl)
        · rw [if_neg h9] at hm
          replace hm := ob hm; obtain ⟨x10, e11, hm⟩ := hm
          refine lv_iinc (v := x10) (lv' := [(2, .int x10), (0, .ref v0), (1, .int v1)]) hx hb dX3_placeOf_26 hl (k := 2) rfl (Option.some.inj e11) (by decide) rfl (fun ls hl => ?_)
          refine lv_goto (tgt := 2) hx hb dX3_placeOf_29 (by decide) ?_
          exact ih hm C0 hW hS (lv_sub hl [1, 2, 0] rfl) kk
set_option maxHeartbeats 4000000 in
set_option maxRecDepth 100000 in
theorem b_X3_placeOf {l : Launch} {D : va_G} {ca : Nat → ClassId} {A : Nat → Prop} {N : Nat} {σ : zS} {v0 : Nat} {v1 : Int32} {r0 : Int32} (hm : m_X3_placeOf N σ v0 v1 = some r0) : Met l yX3_placeOf (.code yX3_placeOf cX3_placeOf 3 (some .int) :: wsL_law) ({ frames := 0, cells := 0, slots := 0, locals := 0 } : Room) (va_Pc [.ref v0, .int v1] (zP D ca A σ)) (zQi r0 D ca A σ) 0 0 A := by
  refine zMk (by decide +kernel) (Nat.le_of_ble_eq_true rfl) ?_
  intro p e s m below meth c C0 hr hlocks hin hW ls hl
  have hx := C0.1
  have hb := C0.2.1
  have hS : va_S A s.heap s.heap [] := va_S.rf
  have hl : lv_has ls 3 [(0, .ref v0), (1, .int v1)] := hl
  unfold m_X3_placeOf at hm
  refine lv_iconst (v := 0) hx hb dX3_placeOf_0 (by decide) ?_
  refine lv_istore_n (lv' := [(2, .int 0), (0, .ref v0), (1, .int v1)]) hx hb dX3_placeOf_1 rfl hl (by decide) rfl (fun ls hl => ?_)
  replace hm := ob hm; obtain ⟨y12, e13, hm⟩ := hm
  refine w_X3_placeOf_L2 N N e13 C0 hW hS (lv_sub hl [1, 2, 0] rfl) (fun H locs ls hW hS hl => ?_)
  refine lv_iload_n hx hb dX3_placeOf_32 rfl (lv_at hl 0 rfl) ?_
  cases hm
  exact r_iret C0 hr hlocks hW hS dX3_placeOf_33
set_option maxHeartbeats 4000000 in
set_option maxRecDepth 100000 in
theorem w_X3_keepHash_L34 {p : Program} {l : Launch} {e : Env} {s : State} {m : MethodId} {args : Array Value} {below : List Frame} {meth : Method} {c : Code} {D : va_G} {ca : Nat → ClassId} {A : Nat → Prop} {Q : State → Prop} (N : Nat) : ∀ (n : Nat) {σ : zS} {v0 : Nat} {v1 : Int32} {v2 : Int32} {v3 : Int32} {σ' : zS} {H : Heap} {locs : List Loc} {ls : Array Slot}, m_X3_keepHash_L34 N n σ v0 v1 v2 v3 = some σ' → zC p s m args c RX3 cX3_keepHash 4 D ca A → zW D ca A σ H → va_S A s.heap H locs → lv_has ls 4 [(0, .ref v0), (1, .int v1), (2, .int v2), (3, .int v3)] → (∀ (H : Heap) (locs : List Loc) (ls : Array Slot), zW D ca A σ' H → va_S A s.heap H locs → lv_has ls 4 [(0, .ref v0), (1, .int v1), (2, .int v2)] → W p l e ({ frames := 1, cells := 0, slots := 0, locals := 26 } : Room) s m args below meth c H locs 0 0 Q (F0 m 59 ls [])) → W p l e ({ frames := 1, cells := 0, slots := 0, locals := 26 } : Room) s m args below meth c H locs 0 0 Q (F0 m 34 ls []) := by
  intro n
  induction n with
  | zero =>
    intro σ v0 v1 v2 v3 σ' H locs ls hm C0 hW hS hl kk
    rw [m_X3_keepHash_L34] at hm
    cases hm
  | succ n ih =>
    intro σ v0 v1 v2 v3 σ' H locs ls hm C0 hW hS hl kk
    rw [m_X3_keepHash_L34] at hm
    have hx := C0.1
    have hb := C0.2.1
    refine lv_iload_n hx hb dX3_keepHash_34 rfl (lv_at hl 3 rfl) ?_
    refine lv_iload_n hx hb dX3_keepHash_35 rfl (lv_at hl 2 rfl) ?_
    refine lv_icmp_le (tgt := 59) hx hb dX3_keepHash_36 (by decide) (fun h9 => ?_) (fun h9 => ?_)
    · rw [if_pos h9] at hm
      cases hm
      exact kk _ _ _ hW hS (lv_sub hl [0, 1, 2] rfl)
    · rw [if_neg h9] at hm
      refine lv_aload_n hx hb dX3_keepHash_39 rfl (lv_at hl 0 rfl) ?_
      replace hm := ob hm; obtain ⟨a10, e11, hm⟩ := hm
      refine r_getA C0 hW fl_X3_9 e11 dX3_keepHash_40 ?_
      refine lv_iload_n hx hb dX3_keepHash_43 rfl (lv_at hl 3 rfl) ?_
      refine lv_aload_n hx hb dX3_keepHash_44 rfl (lv_at hl 0 rfl) ?_
      replace hm := ob hm; obtain ⟨a12, e13, hm⟩ := hm
      refine r_getA C0 hW fl_X3_9 e13 dX3_keepHash_45 ?_
      refine lv_iload_n hx hb dX3_keepHash_48 rfl (lv_at hl 3 rfl) ?_
      refine lv_iconst (v := 1) hx hb dX3_keepHash_49 (by decide) ?_
      refine lv_isub hx hb dX3_keepHash_50 ?_
      replace hm := ob hm; obtain ⟨x14, e15, hm⟩ := hm
      refine r_aI C0 hW e15 dX3_keepHash_51 ?_
      replace hm := ob hm; obtain ⟨σ16, e17, hm⟩ := hm
      refine r_uI C0 hW hS e17 dX3_keepHash_52 (fun H locs hW hS => ?_)
      replace hm := ob hm; obtain ⟨x18, e19, hm⟩ := hm
      refine lv_iinc (v := x18) (lv' := [(3, .int x18), (0, .ref v0), (1, .int v1), (2, .int v2)]) hx hb dX3_keepHash_53 hl (k := 3) rfl (Option.some.inj e19) (by decide) rfl (fun ls hl => ?_)
      refine lv_goto (tgt := 34) hx hb dX3_keepHash_56 (by decide) ?_
      exact ih hm C0 hW hS (lv_sub hl [1, 2, 3, 0] rfl) kk
set_option maxHeartbeats 4000000 in
set_option maxRecDepth 100000 in
theorem b_X3_keepHash {l : Launch} {D : va_G} {ca : Nat → ClassId} {A : Nat → Prop} {N : Nat} {σ : zS} {v0 : Nat} {v1 : Int32} {σ' : zS} (hm : m_X3_keepHash N σ v0 v1 = some σ') : Met l yX3_keepHash (.code yX3_keepHash cX3_keepHash 4 none :: wsL_law) ({ frames := 1, cells := 0, slots := 0, locals := 26 } : Room) (va_Pc [.ref v0, .int v1] (zP D ca A σ)) (zQv D ca A σ') 0 0 A := by
  refine zMk (by decide +kernel) (Nat.le_of_ble_eq_true rfl) ?_
  intro p e s m below meth c C0 hr hlocks hin hW ls hl
  have hx := C0.1
  have hb := C0.2.1
  have hS : va_S A s.heap s.heap [] := va_S.rf
  have hl : lv_has ls 4 [(0, .ref v0), (1, .int v1)] := hl
  unfold m_X3_keepHash at hm
  refine lv_aload_n hx hb dX3_keepHash_0 rfl (lv_at hl 0 rfl) ?_
  refine lv_iload_n hx hb dX3_keepHash_1 rfl (lv_at hl 1 rfl) ?_
  replace hm := ob hm; obtain ⟨u1, e2, hm⟩ := hm
  replace hm := ob hm; obtain ⟨x4, e3, hm⟩ := hm
  refine z_calli (z_runV (As := [.int v1]) (rest := []) (ci := 3) rfl rfl C0 lv_X3_74 (b_X3_placeOf e3) hW hS e2 rfl hl.1 rfl (Nat.le_of_ble_eq_true rfl) dX3_keepHash_2 rfl rfl ⟨Nat.le_of_ble_eq_true rfl, Nat.le_of_ble_eq_true rfl⟩ ⟨Nat.le_refl _, Nat.le_refl _⟩) hS (fun H locs hW hS => ?_)
  refine lv_istore_n (lv' := [(2, .int x4), (0, .ref v0), (1, .int v1)]) hx hb dX3_keepHash_5 rfl hl (by decide) rfl (fun ls hl => ?_)
  refine lv_iload_n hx hb dX3_keepHash_6 rfl (lv_at hl 0 rfl) ?_
  refine lv_bipush (v := 8) hx hb dX3_keepHash_7 (by decide) ?_
  refine lv_icmp_ge (tgt := 30) hx hb dX3_keepHash_9 (by decide) (fun h5 => ?_) (fun h5 => ?_)
  · rw [if_pos h5] at hm
    cases hm
    exact r_vret C0 hr hlocks hW hS dX3_keepHash_30
  · rw [if_neg h5] at hm
    refine lv_iload_n hx hb dX3_keepHash_12 rfl (lv_at hl 0 rfl) ?_
    refine lv_aload_n hx hb dX3_keepHash_13 rfl (lv_at hl 1 rfl) ?_
    replace hm := ob hm; obtain ⟨x6, e7, hm⟩ := hm
    refine r_getI C0 hW fl_X3_31 e7 dX3_keepHash_14 ?_
    refine lv_icmp_ge (tgt := 31) hx hb dX3_keepHash_17 (by decide) (fun h8 => ?_) (fun h8 => ?_)
    · rw [if_pos h8] at hm
      refine lv_bipush (v := 7) hx hb dX3_keepHash_31 (by decide) ?_
      refine lv_istore_n (lv' := [(3, .int 7), (2, .int x4), (0, .ref v0), (1, .int v1)]) hx hb dX3_keepHash_33 rfl hl (by decide) rfl (fun ls hl => ?_)
      replace hm := ob hm; obtain ⟨σ20, e21, hm⟩ := hm
      refine w_X3_keepHash_L34 N N e21 C0 hW hS (lv_sub hl [2, 3, 1, 0] rfl) (fun H locs ls hW hS hl => ?_)
      refine lv_aload_n hx hb dX3_keepHash_59 rfl (lv_at hl 0 rfl) ?_
      replace hm := ob hm; obtain ⟨a22, e23, hm⟩ := hm
      refine r_getA C0 hW fl_X3_9 e23 dX3_keepHash_60 ?_
      refine lv_iload_n hx hb dX3_keepHash_63 rfl (lv_at hl 2 rfl) ?_
      refine lv_iload_n hx hb dX3_keepHash_64 rfl (lv_at hl 1 rfl) ?_
      replace hm := ob hm; obtain ⟨σ24, e25, hm⟩ := hm
      refine r_uI C0 hW hS e25 dX3_keepHash_65 (fun H locs hW hS => ?_)
      refine lv_aload_n hx hb dX3_keepHash_66 rfl (lv_at hl 0 rfl) ?_
      refine lv_aload_n hx hb dX3_keepHash_67 rfl (lv_at hl 0 rfl) ?_
      replace hm := ob hm; obtain ⟨x26, e27, hm⟩ := hm
      refine r_getI C0 hW fl_X3_31 e27 dX3_keepHash_68 ?_
      refine lv_iconst (v := 1) hx hb dX3_keepHash_71 (by decide) ?_
      refine lv_iadd hx hb dX3_keepHash_72 ?_
      refine lv_bipush (v := 8) hx hb dX3_keepHash_73 (by decide) ?_
      refine r_min C0 lb_X3_51 hl.1 (Nat.le_of_ble_eq_true rfl) (Nat.le_of_ble_eq_true rfl) ⟨Nat.le_refl _, Nat.le_refl _⟩ dX3_keepHash_75 ?_
      replace hm := ob hm; obtain ⟨σ28, e29, hm⟩ := hm
      refine r_putI C0 hW hS fl_X3_31 e29 dX3_keepHash_78 (fun H locs hW hS => ?_)
      cases hm
      exact r_vret C0 hr hlocks hW hS dX3_keepHash_81
    · rw [if_neg h8] at hm
      refine lv_aload_n hx hb dX3_keepHash_20 rfl (lv_at hl 1 rfl) ?_
      replace hm := ob hm; obtain ⟨a30, e31, hm⟩ := hm
      refine r_getA C0 hW fl_X3_9 e31 dX3_keepHash_21 ?_
      refine lv_iload_n hx hb dX3_keepHash_24 rfl (lv_at hl 0 rfl) ?_
      replace hm := ob hm; obtain ⟨x32, e33, hm⟩ := hm
      refine r_aI C0 hW e33 dX3_keepHash_25 ?_
      refine lv_iload_n hx hb dX3_keepHash_26 rfl (lv_at hl 2 rfl) ?_
      refine lv_icmp_ne (tgt := 31) hx hb dX3_keepHash_27 (by decide) (fun h34 => ?_) (fun h34 => ?_)
      · rw [if_neg h34] at hm
        refine lv_bipush (v := 7) hx hb dX3_keepHash_31 (by decide) ?_
        refine lv_istore_n (lv' := [(3, .int 7), (2, .int x4), (0, .ref v0), (1, .int v1)]) hx hb dX3_keepHash_33 rfl hl (by decide) rfl (fun ls hl => ?_)
        replace hm := ob hm; obtain ⟨σ35, e36, hm⟩ := hm
        refine w_X3_keepHash_L34 N N e36 C0 hW hS (lv_sub hl [2, 3, 1, 0] rfl) (fun H locs ls hW hS hl => ?_)
        refine lv_aload_n hx hb dX3_keepHash_59 rfl (lv_at hl 0 rfl) ?_
        replace hm := ob hm; obtain ⟨a37, e38, hm⟩ := hm
        refine r_getA C0 hW fl_X3_9 e38 dX3_keepHash_60 ?_
        refine lv_iload_n hx hb dX3_keepHash_63 rfl (lv_at hl 2 rfl) ?_
        refine lv_iload_n hx hb dX3_keepHash_64 rfl (lv_at hl 1 rfl) ?_
        replace hm := ob hm; obtain ⟨σ39, e40, hm⟩ := hm
        refine r_uI C0 hW hS e40 dX3_keepHash_65 (fun H locs hW hS => ?_)
        refine lv_aload_n hx hb dX3_keepHash_66 rfl (lv_at hl 0 rfl) ?_
        refine lv_aload_n hx hb dX3_keepHash_67 rfl (lv_at hl 0 rfl) ?_
        replace hm := ob hm; obtain ⟨x41, e42, hm⟩ := hm
        refine r_getI C0 hW fl_X3_31 e42 dX3_keepHash_68 ?_
        refine lv_iconst (v := 1) hx hb dX3_keepHash_71 (by decide) ?_
        refine lv_iadd hx hb dX3_keepHash_72 ?_
        refine lv_bipush (v := 8) hx hb dX3_keepHash_73 (by decide) ?_
        refine r_min C0 lb_X3_51 hl.1 (Nat.le_of_ble_eq_true rfl) (Nat.le_of_ble_eq_true rfl) ⟨Nat.le_refl _, Nat.le_refl _⟩ dX3_keepHash_75 ?_
        replace hm := ob hm; obtain ⟨σ43, e44, hm⟩ := hm
        refine r_putI C0 hW hS fl_X3_31 e44 dX3_keepHash_78 (fun H locs hW hS => ?_)
        cases hm
        exact r_vret C0 hr hlocks hW hS dX3_keepHash_81
      · rw [if_pos h34] at hm
        cases hm
        exact r_vret C0 hr hlocks hW hS dX3_keepHash_30
set_option maxHeartbeats 4000000 in
set_option maxRecDepth 100000 in
theorem b_X3_low {l : Launch} {D : va_G} {ca : Nat → ClassId} {A : Nat → Prop} {N : Nat} {σ : zS} {v0 : Nat} {r0 : Int32} (hm : m_X3_low N σ v0 = some r0) : Met l yX3_low (.code yX3_low cX3_low 1 (some .int) :: wsL_law) ({ frames := 1, cells := 0, slots := 0, locals := 25 } : Room) (va_Pc [.ref v0] (zP D ca A σ)) (zQi r0 D ca A σ) 0 0 A := by
  refine zMk (by decide +kernel) (Nat.le_of_ble_eq_true rfl) ?_
  intro p e s m below meth c C0 hr hlocks hin hW ls hl
  have hx := C0.1
  have hb := C0.2.1
  have hS : va_S A s.heap s.heap [] := va_S.rf
  have hl : lv_has ls 1 [(0, .ref v0)] := hl
  unfold m_X3_low at hm
  refine lv_aload_n hx hb dX3_low_0 rfl (lv_at hl 0 rfl) ?_
  replace hm := ob hm; obtain ⟨x1, e2, hm⟩ := hm
  refine r_getI C0 hW fl_X3_18 e2 dX3_low_1 ?_
  refine lv_if_ne (tgt := 15) hx hb dX3_low_4 (by decide) (fun h3 => ?_) (fun h3 => ?_)
  · rw [if_neg h3] at hm
    refine lv_aload_n hx hb dX3_low_15 rfl (lv_at hl 0 rfl) ?_
    replace hm := ob hm; obtain ⟨x4, e5, hm⟩ := hm
    refine r_getI C0 hW fl_X3_18 e5 dX3_low_16 ?_
    refine lv_iconst (v := 1) hx hb dX3_low_19 (by decide) ?_
    refine lv_icmp_ne (tgt := 30) hx hb dX3_low_20 (by decide) (fun h6 => ?_) (fun h6 => ?_)
    · rw [if_neg h6] at hm
      refine lv_aload_n hx hb dX3_low_30 rfl (lv_at hl 0 rfl) ?_
      replace hm := ob hm; obtain ⟨u7, e8, hm⟩ := hm
      replace hm := ob hm; obtain ⟨x10, e9, hm⟩ := hm
      refine z_calli (z_runV (As := []) (rest := []) (ci := 3) rfl rfl C0 lv_X3_89 (b_X3_filledRegisters e9) hW hS e8 rfl hl.1 rfl (Nat.le_of_ble_eq_true rfl) dX3_low_31 rfl rfl ⟨Nat.le_of_ble_eq_true rfl, Nat.le_of_ble_eq_true rfl⟩ ⟨Nat.le_refl _, Nat.le_refl _⟩) hS (fun H locs hW hS => ?_)
      cases hm
      exact r_iret C0 hr hlocks hW hS dX3_low_34
    · rw [if_pos h6] at hm
      refine lv_aload_n hx hb dX3_low_23 rfl (lv_at hl 0 rfl) ?_
      replace hm := ob hm; obtain ⟨x11, e12, hm⟩ := hm
      refine r_getI C0 hW fl_X3_31 e12 dX3_low_24 ?_
      refine lv_goto (tgt := 34) hx hb dX3_low_27 (by decide) ?_
      cases hm
      exact r_iret C0 hr hlocks hW hS dX3_low_34
  · rw [if_pos h3] at hm
    refine lv_aload_n hx hb dX3_low_7 rfl (lv_at hl 0 rfl) ?_
    replace hm := ob hm; obtain ⟨x13, e14, hm⟩ := hm
    refine r_getI C0 hW fl_X3_28 e14 dX3_low_8 ?_
    replace hm := ob hm; obtain ⟨x16, e15, hm⟩ := hm
    refine z_calli (z_runS (As := [.int x13]) (rest := []) C0 ls_X3_84 (b_J6_bitCount_0f7a4 e15) hW hS rfl hl.1 rfl (Nat.le_of_ble_eq_true rfl) dX3_low_11 rfl rfl ⟨Nat.le_of_ble_eq_true rfl, Nat.le_of_ble_eq_true rfl⟩ ⟨Nat.le_refl _, Nat.le_refl _⟩) hS (fun H locs hW hS => ?_)
    cases hm
    exact r_iret C0 hr hlocks hW hS dX3_low_14
set_option maxHeartbeats 4000000 in
set_option maxRecDepth 100000 in
theorem b_X8_hashOf {l : Launch} {D : va_G} {ca : Nat → ClassId} {A : Nat → Prop} {N : Nat} {σ : zS} {v0 : Int32} {v1 : Int32} {r0 : Int32} (hm : m_X8_hashOf N σ v0 v1 = some r0) : Met l yX8_hashOf (.code yX8_hashOf cX8_hashOf 3 (some .int) :: wsL_law) ({ frames := 0, cells := 0, slots := 0, locals := 0 } : Room) (va_Pc [.int v0, .int v1] (zP D ca A σ)) (zQi r0 D ca A σ) 0 0 A := by
  refine zMk (by decide +kernel) (Nat.le_of_ble_eq_true rfl) ?_
  intro p e s m below meth c C0 hr hlocks hin hW ls hl
  have hx := C0.1
  have hb := C0.2.1
  have hS : va_S A s.heap s.heap [] := va_S.rf
  have hl : lv_has ls 3 [(0, .int v0), (1, .int v1)] := hl
  unfold m_X8_hashOf at hm
  refine lv_iload_n hx hb dX8_hashOf_0 rfl (lv_at hl 0 rfl) ?_
  refine lv_ldc (v := 40503) hx hb C0.2.2.2.1 (C0.2.2.2.2.1 _ (zin_10 _ (List.mem_of_getElem? (i := 15) rfl))) dX8_hashOf_1 ?_
  refine lv_imul hx hb dX8_hashOf_3 ?_
  refine lv_iload_n hx hb dX8_hashOf_4 rfl (lv_at hl 1 rfl) ?_
  refine lv_sipush (v := 9973) hx hb dX8_hashOf_5 (by decide) ?_
  refine lv_imul hx hb dX8_hashOf_8 ?_
  refine lv_iadd hx hb dX8_hashOf_9 ?_
  refine lv_sipush (v := 7919) hx hb dX8_hashOf_10 (by decide) ?_
  refine lv_iadd hx hb dX8_hashOf_13 ?_
  refine lv_ldc (v := 65536) hx hb C0.2.2.2.1 (C0.2.2.2.2.1 _ (zin_10 _ (List.mem_of_getElem? (i := 16) rfl))) dX8_hashOf_14 ?_
  refine r_irem hx hb dX8_hashOf_16 (by decide) ?_
  replace hm := ob hm; obtain ⟨x1, e2, hm⟩ := hm
  refine z_top e2 ?_
  refine lv_istore_n (lv' := [(2, .int x1), (0, .int v0), (1, .int v1)]) hx hb dX8_hashOf_17 rfl hl (by decide) rfl (fun ls hl => ?_)
  refine lv_iload_n hx hb dX8_hashOf_18 rfl (lv_at hl 0 rfl) ?_
  refine lv_iload_n hx hb dX8_hashOf_19 rfl (lv_at hl 0 rfl) ?_
  refine lv_sipush (v := 128) hx hb dX8_hashOf_20 (by decide) ?_
  refine lv_idiv hx hb dX8_hashOf_23 (by decide) ?_
  refine lv_ixor hx hb dX8_hashOf_24 ?_
  refine lv_sipush (v := 25173) hx hb dX8_hashOf_25 (by decide) ?_
  refine lv_imul hx hb dX8_hashOf_28 ?_
  refine lv_ldc (v := 65536) hx hb C0.2.2.2.1 (C0.2.2.2.2.1 _ (zin_10 _ (List.mem_of_getElem? (i := 16) rfl))) dX8_hashOf_29 ?_
  refine r_irem hx hb dX8_hashOf_31 (by decide) ?_
  replace hm := ob hm; obtain ⟨x3, e4, hm⟩ := hm
  refine z_top e4 ?_
  refine lv_istore_n (lv' := [(2, .int x3), (0, .int v0), (1, .int v1)]) hx hb dX8_hashOf_32 rfl hl (by decide) rfl (fun ls hl => ?_)
  refine lv_iload_n hx hb dX8_hashOf_33 rfl (lv_at hl 0 rfl) ?_
  refine lv_iload_n hx hb dX8_hashOf_34 rfl (lv_at hl 0 rfl) ?_
  refine lv_sipush (v := 256) hx hb dX8_hashOf_35 (by decide) ?_
  refine lv_idiv hx hb dX8_hashOf_38 (by decide) ?_
  refine lv_ixor hx hb dX8_hashOf_39 ?_
  cases hm
  exact r_iret C0 hr hlocks hW hS dX8_hashOf_40
set_option maxHeartbeats 4000000 in
set_option maxRecDepth 100000 in
theorem b_X3_registerOf {l : Launch} {D : va_G} {ca : Nat → ClassId} {A : Nat → Prop} {N : Nat} {σ : zS} {v0 : Nat} {v1 : Int32} {r0 : Int32} (hm : m_X3_registerOf N σ v0 v1 = some r0) : Met l yX3_registerOf (.code yX3_registerOf cX3_registerOf 2 (some .int) :: wsL_law) ({ frames := 0, cells := 0, slots := 0, locals := 0 } : Room) (va_Pc [.ref v0, .int v1] (zP D ca A σ)) (zQi r0 D ca A σ) 0 0 A := by
  refine zMk (by decide +kernel) (Nat.le_of_ble_eq_true rfl) ?_
  intro p e s m below meth c C0 hr hlocks hin hW ls hl
  have hx := C0.1
  have hb := C0.2.1
  have hS : va_S A s.heap s.heap [] := va_S.rf
  have hl : lv_has ls 2 [(0, .ref v0), (1, .int v1)] := hl
  unfold m_X3_registerOf at hm
  refine lv_iload_n hx hb dX3_registerOf_0 rfl (lv_at hl 1 rfl) ?_
  refine lv_bipush (v := 7) hx hb dX3_registerOf_1 (by decide) ?_
  refine lv_iand hx hb dX3_registerOf_3 ?_
  cases hm
  exact r_iret C0 hr hlocks hW hS dX3_registerOf_4
set_option maxHeartbeats 4000000 in
set_option maxRecDepth 100000 in
theorem w_X8_rankOf_L4 {p : Program} {l : Launch} {e : Env} {s : State} {m : MethodId} {args : Array Value} {below : List Frame} {meth : Method} {c : Code} {D : va_G} {ca : Nat → ClassId} {A : Nat → Prop} {Q : State → Prop} (N : Nat) : ∀ (n : Nat) {σ : zS} {v1 : Int32} {v2 : Int32} {y1 : Int32} {H : Heap} {locs : List Loc} {ls : Array Slot}, m_X8_rankOf_L4 N n σ v1 v2 = some y1 → zC p s m args c RX8 cX8_rankOf 3 D ca A → zW D ca A σ H → va_S A s.heap H locs → lv_has ls 3 [(1, .int v1), (2, .int v2)] → (∀ (H : Heap) (locs : List Loc) (ls : Array Slot), zW D ca A σ H → va_S A s.heap H locs → lv_has ls 3 [(1, .int y1)] → W p l e ({ frames := 0, cells := 0, slots := 0, locals := 0 } : Room) s m args below meth c H locs 0 0 Q (F0 m 26 ls [])) → W p l e ({ frames := 0, cells := 0, slots := 0, locals := 0 } : Room) s m args below meth c H locs 0 0 Q (F0 m 4 ls []) := by
  intro n
  induction n with
  | zero =>
    intro σ v1 v2 y1 H locs ls hm C0 hW hS hl kk
    rw [m_X8_rankOf_L4] at hm
    cases hm
  | succ n ih =>
    intro σ v1 v2 y1 H locs ls hm C0 hW hS hl kk
    rw [m_X8_rankOf_L4] at hm
    have hx := C0.1
    have hb := C0.2.1
    refine lv_iload_n hx hb dX8_rankOf_4 rfl (lv_at hl 0 rfl) ?_
    refine lv_bipush (v := 14) hx hb dX8_rankOf_5 (by decide) ?_
    refine lv_icmp_ge (tgt := 26) hx hb dX8_rankOf_7 (by decide) (fun h1 => ?_) (fun h1 => ?_)
    · rw [if_pos h1] at hm
      cases hm
      exact kk _ _ _ hW hS (lv_sub hl [0] rfl)
    · rw [if_neg h1] at hm
      refine lv_iload_n hx hb dX8_rankOf_10 rfl (lv_at hl 1 rfl) ?_
      refine lv_iconst (v := 2) hx hb dX8_rankOf_11 (by decide) ?_
      refine r_irem hx hb dX8_rankOf_12 (by decide) ?_
      refine lv_if_ne (tgt := 26) hx hb dX8_rankOf_13 (by decide) (fun h2 => ?_) (fun h2 => ?_)
      · rw [if_neg h2] at hm
        cases hm
        exact kk _ _ _ hW hS (lv_sub hl [0] rfl)
      · rw [if_pos h2] at hm
        refine lv_iload_n hx hb dX8_rankOf_16 rfl (lv_at hl 1 rfl) ?_
        refine lv_iconst (v := 2) hx hb dX8_rankOf_17 (by decide) ?_
        refine lv_idiv hx hb dX8_rankOf_18 (by decide) ?_
        replace hm := ob hm; obtain ⟨x3, e4, hm⟩ := hm
        refine z_top e4 ?_
        refine lv_istore_n (lv' := [(2, .int x3), (1, .int v1)]) hx hb dX8_rankOf_19 rfl hl (by decide) rfl (fun ls hl => ?_)
        replace hm := ob hm; obtain ⟨x5, e6, hm⟩ := hm
        refine lv_iinc (v := x5) (lv' := [(1, .int x5), (2, .int x3)]) hx hb dX8_rankOf_20 hl (k := 1) rfl (Option.some.inj e6) (by decide) rfl (fun ls hl => ?_)
        refine lv_goto (tgt := 4) hx hb dX8_rankOf_23 (by decide) ?_
        exact ih hm C0 hW hS (lv_sub hl [0, 1] rfl) kk
set_option maxHeartbeats 4000000 in
set_option maxRecDepth 100000 in
theorem b_X8_rankOf {l : Launch} {D : va_G} {ca : Nat → ClassId} {A : Nat → Prop} {N : Nat} {σ : zS} {v0 : Int32} {r0 : Int32} (hm : m_X8_rankOf N σ v0 = some r0) : Met l yX8_rankOf (.code yX8_rankOf cX8_rankOf 3 (some .int) :: wsL_law) ({ frames := 0, cells := 0, slots := 0, locals := 0 } : Room) (va_Pc [.int v0] (zP D ca A σ)) (zQi r0 D ca A σ) 0 0 A := by
  refine zMk (by decide +kernel) (Nat.le_of_ble_eq_true rfl) ?_
  intro p e s m below meth c C0 hr hlocks hin hW ls hl
  have hx := C0.1
  have hb := C0.2.1
  have hS : va_S A s.heap s.heap [] := va_S.rf
  have hl : lv_has ls 3 [(0, .int v0)] := hl
  unfold m_X8_rankOf at hm
  refine lv_iconst (v := 1) hx hb dX8_rankOf_0 (by decide) ?_
  refine lv_istore_n (lv' := [(1, .int 1), (0, .int v0)]) hx hb dX8_rankOf_1 rfl hl (by decide) rfl (fun ls hl => ?_)
  refine lv_iload_n hx hb dX8_rankOf_2 rfl (lv_at hl 1 rfl) ?_
  refine lv_istore_n (lv' := [(2, .int v0), (1, .int 1), (0, .int v0)]) hx hb dX8_rankOf_3 rfl hl (by decide) rfl (fun ls hl => ?_)
  replace hm := ob hm; obtain ⟨y7, e8, hm⟩ := hm
  refine w_X8_rankOf_L4 N N e8 C0 hW hS (lv_sub hl [1, 0] rfl) (fun H locs ls hW hS hl => ?_)
  refine lv_iload_n hx hb dX8_rankOf_26 rfl (lv_at hl 0 rfl) ?_
  cases hm
  exact r_iret C0 hr hlocks hW hS dX8_rankOf_27
set_option maxHeartbeats 4000000 in
set_option maxRecDepth 100000 in
theorem b_X3_staysWith {l : Launch} {D : va_G} {ca : Nat → ClassId} {A : Nat → Prop} {N : Nat} {σ : zS} {v0 : Nat} {v1 : Int32} {r0 : Int32} (hm : m_X3_staysWith N σ v0 v1 = some r0) : Met l yX3_staysWith (.code yX3_staysWith cX3_staysWith 4 (some .boolean) :: wsL_law) ({ frames := 1, cells := 0, slots := 0, locals := 22 } : Room) (va_Pc [.ref v0, .int v1] (zP D ca A σ)) (zQi r0 D ca A σ) 0 0 A := by
  refine zMk (by decide +kernel) (Nat.le_of_ble_eq_true rfl) ?_
  intro p e s m below meth c C0 hr hlocks hin hW ls hl
  have hx := C0.1
  have hb := C0.2.1
  have hS : va_S A s.heap s.heap [] := va_S.rf
  have hl : lv_has ls 4 [(0, .ref v0), (1, .int v1)] := hl
  unfold m_X3_staysWith at hm
  refine lv_iload_n hx hb dX3_staysWith_0 rfl (lv_at hl 1 rfl) ?_
  refine lv_aload_n hx hb dX3_staysWith_1 rfl (lv_at hl 0 rfl) ?_
  replace hm := ob hm; obtain ⟨x1, e2, hm⟩ := hm
  refine r_getI C0 hW fl_X3_22 e2 dX3_staysWith_2 ?_
  replace hm := ob hm; obtain ⟨x4, e3, hm⟩ := hm
  refine z_calli (z_runN (As := [.int v1, .int x1]) (rest := []) C0 ln_X3_46 (b_X8_hashOf e3) hW hS rfl hl.1 rfl (Nat.le_of_ble_eq_true rfl) dX3_staysWith_5 rfl rfl ⟨Nat.le_of_ble_eq_true rfl, Nat.le_of_ble_eq_true rfl⟩ ⟨Nat.le_refl _, Nat.le_refl _⟩) hS (fun H locs hW hS => ?_)
  refine lv_istore_n (lv' := [(2, .int x4), (0, .ref v0), (1, .int v1)]) hx hb dX3_staysWith_8 rfl hl (by decide) rfl (fun ls hl => ?_)
  refine lv_aload_n hx hb dX3_staysWith_9 rfl (lv_at hl 1 rfl) ?_
  replace hm := ob hm; obtain ⟨x5, e6, hm⟩ := hm
  refine r_getI C0 hW fl_X3_18 e6 dX3_staysWith_10 ?_
  refine lv_if_ne (tgt := 35) hx hb dX3_staysWith_13 (by decide) (fun h7 => ?_) (fun h7 => ?_)
  · rw [if_neg h7] at hm
    refine lv_aload_n hx hb dX3_staysWith_35 rfl (lv_at hl 1 rfl) ?_
    replace hm := ob hm; obtain ⟨x8, e9, hm⟩ := hm
    refine r_getI C0 hW fl_X3_18 e9 dX3_staysWith_36 ?_
    refine lv_iconst (v := 1) hx hb dX3_staysWith_39 (by decide) ?_
    refine lv_icmp_ne (tgt := 79) hx hb dX3_staysWith_40 (by decide) (fun h10 => ?_) (fun h10 => ?_)
    · rw [if_neg h10] at hm
      refine lv_aload_n hx hb dX3_staysWith_79 rfl (lv_at hl 1 rfl) ?_
      replace hm := ob hm; obtain ⟨a11, e12, hm⟩ := hm
      refine r_getA C0 hW fl_X3_15 e12 dX3_staysWith_80 ?_
      refine lv_aload_n hx hb dX3_staysWith_83 rfl (lv_at hl 1 rfl) ?_
      refine lv_iload_n hx hb dX3_staysWith_84 rfl (lv_at hl 0 rfl) ?_
      replace hm := ob hm; obtain ⟨u13, e14, hm⟩ := hm
      replace hm := ob hm; obtain ⟨x16, e15, hm⟩ := hm
      refine z_calli (z_runV (As := [.int x4]) (rest := [.ref a11]) (ci := 3) rfl rfl C0 lv_X3_64 (b_X3_registerOf e15) hW hS e14 rfl hl.1 rfl (Nat.le_of_ble_eq_true rfl) dX3_staysWith_85 rfl rfl ⟨Nat.le_of_ble_eq_true rfl, Nat.le_of_ble_eq_true rfl⟩ ⟨Nat.le_refl _, Nat.le_refl _⟩) hS (fun H locs hW hS => ?_)
      replace hm := ob hm; obtain ⟨x17, e18, hm⟩ := hm
      refine r_aI C0 hW e18 dX3_staysWith_88 ?_
      refine lv_iload_n hx hb dX3_staysWith_89 rfl (lv_at hl 0 rfl) ?_
      refine lv_bipush (v := 8) hx hb dX3_staysWith_90 (by decide) ?_
      refine lv_idiv hx hb dX3_staysWith_92 (by decide) ?_
      replace hm := ob hm; obtain ⟨x20, e19, hm⟩ := hm
      refine z_calli (z_runN (As := [.int (x4 / 8)]) (rest := [.int x17]) C0 ln_X3_67 (b_X8_rankOf e19) hW hS rfl hl.1 rfl (Nat.le_of_ble_eq_true rfl) dX3_staysWith_93 rfl rfl ⟨Nat.le_of_ble_eq_true rfl, Nat.le_of_ble_eq_true rfl⟩ ⟨Nat.le_refl _, Nat.le_refl _⟩) hS (fun H locs hW hS => ?_)
      refine lv_icmp_lt (tgt := 103) hx hb dX3_staysWith_96 (by decide) (fun h21 => ?_) (fun h21 => ?_)
      · rw [if_pos h21] at hm
        refine lv_iconst (v := 0) hx hb dX3_staysWith_103 (by decide) ?_
        cases hm
        exact r_zret C0 hr rfl hlocks hW hS dX3_staysWith_104
      · rw [if_neg h21] at hm
        refine lv_iconst (v := 1) hx hb dX3_staysWith_99 (by decide) ?_
        refine lv_goto (tgt := 104) hx hb dX3_staysWith_100 (by decide) ?_
        cases hm
        exact r_zret C0 hr rfl hlocks hW hS dX3_staysWith_104
    · rw [if_pos h10] at hm
      refine lv_aload_n hx hb dX3_staysWith_43 rfl (lv_at hl 1 rfl) ?_
      refine lv_iload_n hx hb dX3_staysWith_44 rfl (lv_at hl 0 rfl) ?_
      replace hm := ob hm; obtain ⟨u22, e23, hm⟩ := hm
      replace hm := ob hm; obtain ⟨x25, e24, hm⟩ := hm
      refine z_calli (z_runV (As := [.int x4]) (rest := []) (ci := 3) rfl rfl C0 lv_X3_74 (b_X3_placeOf e24) hW hS e23 rfl hl.1 rfl (Nat.le_of_ble_eq_true rfl) dX3_staysWith_45 rfl rfl ⟨Nat.le_of_ble_eq_true rfl, Nat.le_of_ble_eq_true rfl⟩ ⟨Nat.le_refl _, Nat.le_refl _⟩) hS (fun H locs hW hS => ?_)
      refine lv_istore_n (lv' := [(3, .int x25), (2, .int x4), (0, .ref v0), (1, .int v1)]) hx hb dX3_staysWith_48 rfl hl (by decide) rfl (fun ls hl => ?_)
      refine lv_iload_n hx hb dX3_staysWith_49 rfl (lv_at hl 0 rfl) ?_
      refine lv_bipush (v := 8) hx hb dX3_staysWith_50 (by decide) ?_
      refine lv_icmp_ge (tgt := 73) hx hb dX3_staysWith_52 (by decide) (fun h26 => ?_) (fun h26 => ?_)
      · rw [if_pos h26] at hm
        refine lv_iconst (v := 1) hx hb dX3_staysWith_73 (by decide) ?_
        refine lv_goto (tgt := 78) hx hb dX3_staysWith_74 (by decide) ?_
        cases hm
        exact r_zret C0 hr rfl hlocks hW hS dX3_staysWith_78
      · rw [if_neg h26] at hm
        refine lv_iload_n hx hb dX3_staysWith_55 rfl (lv_at hl 0 rfl) ?_
        refine lv_aload_n hx hb dX3_staysWith_56 rfl (lv_at hl 2 rfl) ?_
        replace hm := ob hm; obtain ⟨x27, e28, hm⟩ := hm
        refine r_getI C0 hW fl_X3_31 e28 dX3_staysWith_57 ?_
        refine lv_icmp_ge (tgt := 77) hx hb dX3_staysWith_60 (by decide) (fun h29 => ?_) (fun h29 => ?_)
        · rw [if_pos h29] at hm
          refine lv_iconst (v := 0) hx hb dX3_staysWith_77 (by decide) ?_
          cases hm
          exact r_zret C0 hr rfl hlocks hW hS dX3_staysWith_78
        · rw [if_neg h29] at hm
          refine lv_aload_n hx hb dX3_staysWith_63 rfl (lv_at hl 2 rfl) ?_
          replace hm := ob hm; obtain ⟨a30, e31, hm⟩ := hm
          refine r_getA C0 hW fl_X3_9 e31 dX3_staysWith_64 ?_
          refine lv_iload_n hx hb dX3_staysWith_67 rfl (lv_at hl 0 rfl) ?_
          replace hm := ob hm; obtain ⟨x32, e33, hm⟩ := hm
          refine r_aI C0 hW e33 dX3_staysWith_68 ?_
          refine lv_iload_n hx hb dX3_staysWith_69 rfl (lv_at hl 1 rfl) ?_
          refine lv_icmp_ne (tgt := 77) hx hb dX3_staysWith_70 (by decide) (fun h34 => ?_) (fun h34 => ?_)
          · rw [if_neg h34] at hm
            refine lv_iconst (v := 0) hx hb dX3_staysWith_77 (by decide) ?_
            cases hm
            exact r_zret C0 hr rfl hlocks hW hS dX3_staysWith_78
          · rw [if_pos h34] at hm
            refine lv_iconst (v := 1) hx hb dX3_staysWith_73 (by decide) ?_
            refine lv_goto (tgt := 78) hx hb dX3_staysWith_74 (by decide) ?_
            cases hm
            exact r_zret C0 hr rfl hlocks hW hS dX3_staysWith_78
  · rw [if_pos h7] at hm
    refine lv_aload_n hx hb dX3_staysWith_16 rfl (lv_at hl 1 rfl) ?_
    replace hm := ob hm; obtain ⟨x35, e36, hm⟩ := hm
    refine r_getI C0 hW fl_X3_28 e36 dX3_staysWith_17 ?_
    refine lv_aload_n hx hb dX3_staysWith_20 rfl (lv_at hl 1 rfl) ?_
    refine lv_iload_n hx hb dX3_staysWith_21 rfl (lv_at hl 0 rfl) ?_
    replace hm := ob hm; obtain ⟨u37, e38, hm⟩ := hm
    replace hm := ob hm; obtain ⟨x40, e39, hm⟩ := hm
    refine z_calli (z_runV (As := [.int x4]) (rest := [.int x35]) (ci := 3) rfl rfl C0 lv_X3_56 (b_X3_bitOf e39) hW hS e38 rfl hl.1 rfl (Nat.le_of_ble_eq_true rfl) dX3_staysWith_22 rfl rfl ⟨Nat.le_of_ble_eq_true rfl, Nat.le_of_ble_eq_true rfl⟩ ⟨Nat.le_refl _, Nat.le_refl _⟩) hS (fun H locs hW hS => ?_)
    refine lv_iand hx hb dX3_staysWith_25 ?_
    refine lv_if_eq (tgt := 33) hx hb dX3_staysWith_26 (by decide) (fun h41 => ?_) (fun h41 => ?_)
    · rw [if_pos h41] at hm
      refine lv_iconst (v := 0) hx hb dX3_staysWith_33 (by decide) ?_
      cases hm
      exact r_zret C0 hr rfl hlocks hW hS dX3_staysWith_34
    · rw [if_neg h41] at hm
      refine lv_iconst (v := 1) hx hb dX3_staysWith_29 (by decide) ?_
      refine lv_goto (tgt := 34) hx hb dX3_staysWith_30 (by decide) ?_
      cases hm
      exact r_zret C0 hr rfl hlocks hW hS dX3_staysWith_34
set_option maxHeartbeats 4000000 in
set_option maxRecDepth 100000 in
theorem w_X3_lowestRaising_L2 {p : Program} {l : Launch} {e : Env} {s : State} {m : MethodId} {args : Array Value} {below : List Frame} {meth : Method} {c : Code} {D : va_G} {ca : Nat → ClassId} {A : Nat → Prop} {Q : State → Prop} (N : Nat) : ∀ (n : Nat) {σ : zS} {v0 : Nat} {v1 : Int32} {res : (Int32) ⊕ (Unit)} {H : Heap} {locs : List Loc} {ls : Array Slot}, m_X3_lowestRaising_L2 N n σ v0 v1 = some res → zC p s m args c RX3 cX3_lowestRaising 2 D ca A → zW D ca A σ H → va_S A s.heap H locs → lv_has ls 2 [(0, .ref v0), (1, .int v1)] → (∀ (r : Int32), res = .inl r → ∀ (pc : Nat) (H : Heap) (locs : List Loc) (ls : Array Slot), decode cX3_lowestRaising pc = .ok (.ireturn, 1) → zW D ca A σ H → va_S A s.heap H locs → W p l e ({ frames := 2, cells := 0, slots := 0, locals := 45 } : Room) s m args below meth c H locs 0 0 Q (F0 m pc ls [.int r])) → (res = .inr () → ∀ (H : Heap) (locs : List Loc) (ls : Array Slot), zW D ca A σ H → va_S A s.heap H locs → lv_has ls 2 [] → W p l e ({ frames := 2, cells := 0, slots := 0, locals := 45 } : Room) s m args below meth c H locs 0 0 Q (F0 m 25 ls [])) → W p l e ({ frames := 2, cells := 0, slots := 0, locals := 45 } : Room) s m args below meth c H locs 0 0 Q (F0 m 2 ls []) := by
  intro n
  induction n with
  | zero =>
    intro σ v0 v1 res H locs ls hm C0 hW hS hl kr kk
    rw [m_X3_lowestRaising_L2] at hm
    cases hm
  | succ n ih =>
    intro σ v0 v1 res H locs ls hm C0 hW hS hl kr kk
    rw [m_X3_lowestRaising_L2] at hm
    have hx := C0.1
    have hb := C0.2.1
    refine lv_iload_n hx hb dX3_lowestRaising_2 rfl (lv_at hl 1 rfl) ?_
    refine lv_sipush (v := 1000) hx hb dX3_lowestRaising_3 (by decide) ?_
    refine lv_icmp_ge (tgt := 25) hx hb dX3_lowestRaising_6 (by decide) (fun h1 => ?_) (fun h1 => ?_)
    · rw [if_pos h1] at hm
      cases hm
      exact kk  rfl _ _ _ hW hS (lv_sub hl [] rfl)
    · rw [if_neg h1] at hm
      refine lv_aload_n hx hb dX3_lowestRaising_9 rfl (lv_at hl 0 rfl) ?_
      refine lv_iload_n hx hb dX3_lowestRaising_10 rfl (lv_at hl 1 rfl) ?_
      replace hm := ob hm; obtain ⟨u2, e3, hm⟩ := hm
      replace hm := ob hm; obtain ⟨x5, e4, hm⟩ := hm
      refine z_calli (z_runV (As := [.int v1]) (rest := []) (ci := 3) rfl rfl C0 lv_X3_77 (b_X3_staysWith e4) hW hS e3 rfl hl.1 rfl (Nat.le_of_ble_eq_true rfl) dX3_lowestRaising_11 rfl rfl ⟨Nat.le_of_ble_eq_true rfl, Nat.le_of_ble_eq_true rfl⟩ ⟨Nat.le_refl _, Nat.le_refl _⟩) hS (fun H locs hW hS => ?_)
      refine lv_if_ne (tgt := 19) hx hb dX3_lowestRaising_14 (by decide) (fun h6 => ?_) (fun h6 => ?_)
      · rw [if_neg h6] at hm
        replace hm := ob hm; obtain ⟨x7, e8, hm⟩ := hm
        refine lv_iinc (v := x7) (lv' := [(1, .int x7), (0, .ref v0)]) hx hb dX3_lowestRaising_19 hl (k := 1) rfl (Option.some.inj e8) (by decide) rfl (fun ls hl => ?_)
        refine lv_goto (tgt := 2) hx hb dX3_lowestRaising_22 (by decide) ?_
        exact ih hm C0 hW hS (lv_sub hl [1, 0] rfl) kr kk
      · rw [if_pos h6] at hm
        refine lv_iload_n hx hb dX3_lowestRaising_17 rfl (lv_at hl 1 rfl) ?_
        cases hm
        exact kr _ rfl _ _ _ _ dX3_lowestRaising_18 hW hS
set_option maxHeartbeats 4000000 in
set_option maxRecDepth 100000 in
theorem b_X3_lowestRaising {l : Launch} {D : va_G} {ca : Nat → ClassId} {A : Nat → Prop} {N : Nat} {σ : zS} {v0 : Nat} {r0 : Int32} (hm : m_X3_lowestRaising N σ v0 = some r0) : Met l yX3_lowestRaising (.code yX3_lowestRaising cX3_lowestRaising 2 (some .int) :: wsL_law) ({ frames := 2, cells := 0, slots := 0, locals := 45 } : Room) (va_Pc [.ref v0] (zP D ca A σ)) (zQi r0 D ca A σ) 0 0 A := by
  refine zMk (by decide +kernel) (Nat.le_of_ble_eq_true rfl) ?_
  intro p e s m below meth c C0 hr hlocks hin hW ls hl
  have hx := C0.1
  have hb := C0.2.1
  have hS : va_S A s.heap s.heap [] := va_S.rf
  have hl : lv_has ls 2 [(0, .ref v0)] := hl
  unfold m_X3_lowestRaising at hm
  refine lv_iconst (v := 0) hx hb dX3_lowestRaising_0 (by decide) ?_
  refine lv_istore_n (lv' := [(1, .int 0), (0, .ref v0)]) hx hb dX3_lowestRaising_1 rfl hl (by decide) rfl (fun ls hl => ?_)
  replace hm := obs hm; rcases hm with ⟨r9, e9, hm⟩ | ⟨z9, e9, hm⟩
  · cases hm
    refine w_X3_lowestRaising_L2 N N e9 C0 hW hS (lv_sub hl [1, 0] rfl) (fun _ hq pc2 H locs ls d2 hW hS => ?_) (fun  hq => by cases hq)
    cases hq
    exact r_iret C0 hr hlocks hW hS d2
  · refine w_X3_lowestRaising_L2 N N e9 C0 hW hS (lv_sub hl [1, 0] rfl) (fun _ hq => by cases hq) (fun  hq H locs ls hW hS hl => ?_)
    cases hq
    refine lv_bipush (v := (-4)) hx hb dX3_lowestRaising_25 (by decide) ?_
    cases hm
    exact r_iret C0 hr hlocks hW hS dX3_lowestRaising_27
set_option maxHeartbeats 4000000 in
set_option maxRecDepth 100000 in
theorem b_X3_partAt {l : Launch} {D : va_G} {ca : Nat → ClassId} {A : Nat → Prop} {N : Nat} {σ : zS} {v0 : Nat} {v1 : Int32} {r0 : Int32} (hm : m_X3_partAt N σ v0 v1 = some r0) : Met l yX3_partAt (.code yX3_partAt cX3_partAt 2 (some .int) :: wsL_law) ({ frames := 0, cells := 0, slots := 0, locals := 0 } : Room) (va_Pc [.ref v0, .int v1] (zP D ca A σ)) (zQi r0 D ca A σ) 0 0 A := by
  refine zMk (by decide +kernel) (Nat.le_of_ble_eq_true rfl) ?_
  intro p e s m below meth c C0 hr hlocks hin hW ls hl
  have hx := C0.1
  have hb := C0.2.1
  have hS : va_S A s.heap s.heap [] := va_S.rf
  have hl : lv_has ls 2 [(0, .ref v0), (1, .int v1)] := hl
  unfold m_X3_partAt at hm
  refine lv_iload_n hx hb dX3_partAt_0 rfl (lv_at hl 1 rfl) ?_
  refine lv_if_ge (tgt := 6) hx hb dX3_partAt_1 (by decide) (fun h1 => ?_) (fun h1 => ?_)
  · rw [if_pos h1] at hm
    refine lv_aload_n hx hb dX3_partAt_6 rfl (lv_at hl 0 rfl) ?_
    replace hm := ob hm; obtain ⟨x2, e3, hm⟩ := hm
    refine r_getI C0 hW fl_X3_18 e3 dX3_partAt_7 ?_
    refine lv_if_ne (tgt := 32) hx hb dX3_partAt_10 (by decide) (fun h4 => ?_) (fun h4 => ?_)
    · rw [if_neg h4] at hm
      refine lv_aload_n hx hb dX3_partAt_32 rfl (lv_at hl 0 rfl) ?_
      replace hm := ob hm; obtain ⟨x5, e6, hm⟩ := hm
      refine r_getI C0 hW fl_X3_18 e6 dX3_partAt_33 ?_
      refine lv_iconst (v := 1) hx hb dX3_partAt_36 (by decide) ?_
      refine lv_icmp_ne (tgt := 66) hx hb dX3_partAt_37 (by decide) (fun h7 => ?_) (fun h7 => ?_)
      · rw [if_neg h7] at hm
        refine lv_iload_n hx hb dX3_partAt_66 rfl (lv_at hl 1 rfl) ?_
        refine lv_bipush (v := 8) hx hb dX3_partAt_67 (by decide) ?_
        refine lv_icmp_ge (tgt := 81) hx hb dX3_partAt_69 (by decide) (fun h8 => ?_) (fun h8 => ?_)
        · rw [if_pos h8] at hm
          refine lv_iconst (v := (-1)) hx hb dX3_partAt_81 (by decide) ?_
          cases hm
          exact r_iret C0 hr hlocks hW hS dX3_partAt_82
        · rw [if_neg h8] at hm
          refine lv_aload_n hx hb dX3_partAt_72 rfl (lv_at hl 0 rfl) ?_
          replace hm := ob hm; obtain ⟨a9, e10, hm⟩ := hm
          refine r_getA C0 hW fl_X3_15 e10 dX3_partAt_73 ?_
          refine lv_iload_n hx hb dX3_partAt_76 rfl (lv_at hl 1 rfl) ?_
          replace hm := ob hm; obtain ⟨x11, e12, hm⟩ := hm
          refine r_aI C0 hW e12 dX3_partAt_77 ?_
          refine lv_goto (tgt := 82) hx hb dX3_partAt_78 (by decide) ?_
          cases hm
          exact r_iret C0 hr hlocks hW hS dX3_partAt_82
      · rw [if_pos h7] at hm
        refine lv_iload_n hx hb dX3_partAt_40 rfl (lv_at hl 1 rfl) ?_
        refine lv_aload_n hx hb dX3_partAt_41 rfl (lv_at hl 0 rfl) ?_
        replace hm := ob hm; obtain ⟨x13, e14, hm⟩ := hm
        refine r_getI C0 hW fl_X3_31 e14 dX3_partAt_42 ?_
        refine lv_icmp_ge (tgt := 63) hx hb dX3_partAt_45 (by decide) (fun h15 => ?_) (fun h15 => ?_)
        · rw [if_pos h15] at hm
          refine lv_bipush (v := (-4)) hx hb dX3_partAt_63 (by decide) ?_
          cases hm
          exact r_iret C0 hr hlocks hW hS dX3_partAt_65
        · rw [if_neg h15] at hm
          refine lv_iload_n hx hb dX3_partAt_48 rfl (lv_at hl 1 rfl) ?_
          refine lv_bipush (v := 8) hx hb dX3_partAt_49 (by decide) ?_
          refine lv_icmp_ge (tgt := 63) hx hb dX3_partAt_51 (by decide) (fun h16 => ?_) (fun h16 => ?_)
          · rw [if_pos h16] at hm
            refine lv_bipush (v := (-4)) hx hb dX3_partAt_63 (by decide) ?_
            cases hm
            exact r_iret C0 hr hlocks hW hS dX3_partAt_65
          · rw [if_neg h16] at hm
            refine lv_aload_n hx hb dX3_partAt_54 rfl (lv_at hl 0 rfl) ?_
            replace hm := ob hm; obtain ⟨a17, e18, hm⟩ := hm
            refine r_getA C0 hW fl_X3_9 e18 dX3_partAt_55 ?_
            refine lv_iload_n hx hb dX3_partAt_58 rfl (lv_at hl 1 rfl) ?_
            replace hm := ob hm; obtain ⟨x19, e20, hm⟩ := hm
            refine r_aI C0 hW e20 dX3_partAt_59 ?_
            refine lv_goto (tgt := 65) hx hb dX3_partAt_60 (by decide) ?_
            cases hm
            exact r_iret C0 hr hlocks hW hS dX3_partAt_65
    · rw [if_pos h4] at hm
      refine lv_iload_n hx hb dX3_partAt_13 rfl (lv_at hl 1 rfl) ?_
      refine lv_bipush (v := 32) hx hb dX3_partAt_14 (by decide) ?_
      refine lv_icmp_ge (tgt := 30) hx hb dX3_partAt_16 (by decide) (fun h21 => ?_) (fun h21 => ?_)
      · rw [if_pos h21] at hm
        refine lv_iconst (v := (-1)) hx hb dX3_partAt_30 (by decide) ?_
        cases hm
        exact r_iret C0 hr hlocks hW hS dX3_partAt_31
      · rw [if_neg h21] at hm
        refine lv_aload_n hx hb dX3_partAt_19 rfl (lv_at hl 0 rfl) ?_
        replace hm := ob hm; obtain ⟨x22, e23, hm⟩ := hm
        refine r_getI C0 hW fl_X3_28 e23 dX3_partAt_20 ?_
        refine lv_iload_n hx hb dX3_partAt_23 rfl (lv_at hl 1 rfl) ?_
        refine r_iushr hx hb dX3_partAt_24 ?_
        refine lv_iconst (v := 1) hx hb dX3_partAt_25 (by decide) ?_
        refine lv_iand hx hb dX3_partAt_26 ?_
        refine lv_goto (tgt := 31) hx hb dX3_partAt_27 (by decide) ?_
        cases hm
        exact r_iret C0 hr hlocks hW hS dX3_partAt_31
  · rw [if_neg h1] at hm
    refine lv_iconst (v := (-1)) hx hb dX3_partAt_4 (by decide) ?_
    cases hm
    exact r_iret C0 hr hlocks hW hS dX3_partAt_5
set_option maxHeartbeats 4000000 in
set_option maxRecDepth 100000 in
theorem b_X3_raise {l : Launch} {D : va_G} {ca : Nat → ClassId} {A : Nat → Prop} {N : Nat} {σ : zS} {v0 : Nat} {v1 : Int32} {v2 : Int32} {σ' : zS} (hm : m_X3_raise N σ v0 v1 v2 = some σ') : Met l yX3_raise (.code yX3_raise cX3_raise 3 none :: wsL_law) ({ frames := 1, cells := 0, slots := 0, locals := 26 } : Room) (va_Pc [.ref v0, .int v1, .int v2] (zP D ca A σ)) (zQv D ca A σ') 0 0 A := by
  refine zMk (by decide +kernel) (Nat.le_of_ble_eq_true rfl) ?_
  intro p e s m below meth c C0 hr hlocks hin hW ls hl
  have hx := C0.1
  have hb := C0.2.1
  have hS : va_S A s.heap s.heap [] := va_S.rf
  have hl : lv_has ls 3 [(0, .ref v0), (1, .int v1), (2, .int v2)] := hl
  unfold m_X3_raise at hm
  refine lv_iload_n hx hb dX3_raise_0 rfl (lv_at hl 1 rfl) ?_
  refine lv_if_lt (tgt := 26) hx hb dX3_raise_1 (by decide) (fun h1 => ?_) (fun h1 => ?_)
  · rw [if_pos h1] at hm
    cases hm
    exact r_vret C0 hr hlocks hW hS dX3_raise_26
  · rw [if_neg h1] at hm
    refine lv_iload_n hx hb dX3_raise_4 rfl (lv_at hl 1 rfl) ?_
    refine lv_bipush (v := 8) hx hb dX3_raise_5 (by decide) ?_
    refine lv_icmp_ge (tgt := 26) hx hb dX3_raise_7 (by decide) (fun h2 => ?_) (fun h2 => ?_)
    · rw [if_pos h2] at hm
      cases hm
      exact r_vret C0 hr hlocks hW hS dX3_raise_26
    · rw [if_neg h2] at hm
      refine lv_aload_n hx hb dX3_raise_10 rfl (lv_at hl 0 rfl) ?_
      replace hm := ob hm; obtain ⟨a3, e4, hm⟩ := hm
      refine r_getA C0 hW fl_X3_15 e4 dX3_raise_11 ?_
      refine lv_iload_n hx hb dX3_raise_14 rfl (lv_at hl 1 rfl) ?_
      refine lv_aload_n hx hb dX3_raise_15 rfl (lv_at hl 0 rfl) ?_
      replace hm := ob hm; obtain ⟨a5, e6, hm⟩ := hm
      refine r_getA C0 hW fl_X3_15 e6 dX3_raise_16 ?_
      refine lv_iload_n hx hb dX3_raise_19 rfl (lv_at hl 1 rfl) ?_
      replace hm := ob hm; obtain ⟨x7, e8, hm⟩ := hm
      refine r_aI C0 hW e8 dX3_raise_20 ?_
      refine lv_iload_n hx hb dX3_raise_21 rfl (lv_at hl 2 rfl) ?_
      refine r_max C0 lb_X3_81 hl.1 (Nat.le_of_ble_eq_true rfl) (Nat.le_of_ble_eq_true rfl) ⟨Nat.le_refl _, Nat.le_refl _⟩ dX3_raise_22 ?_
      replace hm := ob hm; obtain ⟨σ9, e10, hm⟩ := hm
      refine r_uI C0 hW hS e10 dX3_raise_25 (fun H locs hW hS => ?_)
      cases hm
      exact r_vret C0 hr hlocks hW hS dX3_raise_26
set_option maxHeartbeats 4000000 in
set_option maxRecDepth 100000 in
theorem w_X8_spread_L4 {p : Program} {l : Launch} {e : Env} {s : State} {m : MethodId} {args : Array Value} {below : List Frame} {meth : Method} {c : Code} {D : va_G} {ca : Nat → ClassId} {A : Nat → Prop} {Q : State → Prop} (N : Nat) : ∀ (n : Nat) {σ : zS} {v0 : Int32} {v1 : Int32} {v2 : Int32} {v3 : Int32} {y2 : Int32} {H : Heap} {locs : List Loc} {ls : Array Slot}, m_X8_spread_L4 N n σ v0 v1 v2 v3 = some y2 → zC p s m args c RX8 cX8_spread 4 D ca A → zW D ca A σ H → va_S A s.heap H locs → lv_has ls 4 [(0, .int v0), (1, .int v1), (2, .int v2), (3, .int v3)] → (∀ (H : Heap) (locs : List Loc) (ls : Array Slot), zW D ca A σ H → va_S A s.heap H locs → lv_has ls 4 [(2, .int y2)] → W p l e ({ frames := 0, cells := 0, slots := 0, locals := 0 } : Room) s m args below meth c H locs 0 0 Q (F0 m 30 ls [])) → W p l e ({ frames := 0, cells := 0, slots := 0, locals := 0 } : Room) s m args below meth c H locs 0 0 Q (F0 m 4 ls []) := by
  intro n
  induction n with
  | zero =>
    intro σ v0 v1 v2 v3 y2 H locs ls hm C0 hW hS hl kk
    rw [m_X8_spread_L4] at hm
    cases hm
  | succ n ih =>
    intro σ v0 v1 v2 v3 y2 H locs ls hm C0 hW hS hl kk
    rw [m_X8_spread_L4] at hm
    have hx := C0.1
    have hb := C0.2.1
    refine lv_iload_n hx hb dX8_spread_4 rfl (lv_at hl 3 rfl) ?_
    refine lv_iload_n hx hb dX8_spread_5 rfl (lv_at hl 0 rfl) ?_
    refine lv_icmp_gt (tgt := 30) hx hb dX8_spread_6 (by decide) (fun h1 => ?_) (fun h1 => ?_)
    · rw [if_pos h1] at hm
      cases hm
      exact kk _ _ _ hW hS (lv_sub hl [2] rfl)
    · rw [if_neg h1] at hm
      refine lv_iload_n hx hb dX8_spread_9 rfl (lv_at hl 3 rfl) ?_
      refine lv_iload_n hx hb dX8_spread_10 rfl (lv_at hl 1 rfl) ?_
      replace hm := ob hm; obtain ⟨y8, e11, hm⟩ := hm
      have J24_2 : ∀ (H : Heap) (locs : List Loc) (ls : Array Slot), zW D ca A σ H → va_S A s.heap H locs → lv_has ls 4 [(0, .int v0), (1, .int v1), (3, .int v3), (2, .int y8)] → W p l e ({ frames := 0, cells := 0, slots := 0, locals := 0 } : Room) s m args below meth c H locs 0 0 Q (F0 m 24 ls []) := by
        intro H locs ls hW hS hl
        replace hm := ob hm; obtain ⟨x9, e10, hm⟩ := hm
        refine lv_iinc (v := x9) (lv' := [(3, .int x9), (0, .int v0), (1, .int v1), (2, .int y8)]) hx hb dX8_spread_24 hl (k := 2) rfl (Option.some.inj e10) (by decide) rfl (fun ls hl => ?_)
        refine lv_goto (tgt := 4) hx hb dX8_spread_27 (by decide) ?_
        exact ih hm C0 hW hS (lv_sub hl [1, 2, 3, 0] rfl) kk
      clear hm
      have hm := e11
      clear e11
      refine lv_icmp_le (tgt := 24) hx hb dX8_spread_11 (by decide) (fun h2 => ?_) (fun h2 => ?_)
      · rw [if_pos h2] at hm
        have hq1 := Option.some.inj hm; subst hq1
        exact J24_2 _ _ _ hW hS (lv_sub hl [0, 1, 3, 2] rfl)
      · rw [if_neg h2] at hm
        refine lv_iload_n hx hb dX8_spread_14 rfl (lv_at hl 2 rfl) ?_
        refine lv_iload_n hx hb dX8_spread_15 rfl (lv_at hl 0 rfl) ?_
        refine lv_sipush (v := 1000) hx hb dX8_spread_16 (by decide) ?_
        refine lv_imul hx hb dX8_spread_19 ?_
        refine lv_iload_n hx hb dX8_spread_20 rfl (lv_at hl 3 rfl) ?_
        replace hm := ob hm; obtain ⟨u4, e5, hm⟩ := hm
        refine lv_idiv hx hb dX8_spread_21 (ckD_ne e5) ?_
        refine lv_iadd hx hb dX8_spread_22 ?_
        replace hm := ob hm; obtain ⟨x6, e7, hm⟩ := hm
        refine z_top e7 ?_
        refine lv_istore_n (lv' := [(2, .int x6), (0, .int v0), (1, .int v1), (3, .int v3)]) hx hb dX8_spread_23 rfl hl (by decide) rfl (fun ls hl => ?_)
        have hq1 := Option.some.inj hm; subst hq1
        exact J24_2 _ _ _ hW hS (lv_sub hl [1, 2, 3, 0] rfl)
set_option maxHeartbeats 4000000 in
set_option maxRecDepth 100000 in
theorem b_X8_spread {l : Launch} {D : va_G} {ca : Nat → ClassId} {A : Nat → Prop} {N : Nat} {σ : zS} {v0 : Int32} {v1 : Int32} {r0 : Int32} (hm : m_X8_spread N σ v0 v1 = some r0) : Met l yX8_spread (.code yX8_spread cX8_spread 4 (some .int) :: wsL_law) ({ frames := 0, cells := 0, slots := 0, locals := 0 } : Room) (va_Pc [.int v0, .int v1] (zP D ca A σ)) (zQi r0 D ca A σ) 0 0 A := by
  refine zMk (by decide +kernel) (Nat.le_of_ble_eq_true rfl) ?_
  intro p e s m below meth c C0 hr hlocks hin hW ls hl
  have hx := C0.1
  have hb := C0.2.1
  have hS : va_S A s.heap s.heap [] := va_S.rf
  have hl : lv_has ls 4 [(0, .int v0), (1, .int v1)] := hl
  unfold m_X8_spread at hm
  refine lv_iconst (v := 0) hx hb dX8_spread_0 (by decide) ?_
  refine lv_istore_n (lv' := [(2, .int 0), (0, .int v0), (1, .int v1)]) hx hb dX8_spread_1 rfl hl (by decide) rfl (fun ls hl => ?_)
  refine lv_iconst (v := 1) hx hb dX8_spread_2 (by decide) ?_
  refine lv_istore_n (lv' := [(3, .int 1), (2, .int 0), (0, .int v0), (1, .int v1)]) hx hb dX8_spread_3 rfl hl (by decide) rfl (fun ls hl => ?_)
  replace hm := ob hm; obtain ⟨y12, e13, hm⟩ := hm
  refine w_X8_spread_L4 N N e13 C0 hW hS (lv_sub hl [2, 3, 1, 0] rfl) (fun H locs ls hW hS hl => ?_)
  refine lv_iload_n hx hb dX8_spread_30 rfl (lv_at hl 0 rfl) ?_
  refine lv_sipush (v := 1000) hx hb dX8_spread_31 (by decide) ?_
  refine lv_idiv hx hb dX8_spread_34 (by decide) ?_
  cases hm
  exact r_iret C0 hr hlocks hW hS dX8_spread_35
set_option maxHeartbeats 4000000 in
set_option maxRecDepth 100000 in
theorem b_X3_roughByHashes {l : Launch} {D : va_G} {ca : Nat → ClassId} {A : Nat → Prop} {N : Nat} {σ : zS} {v0 : Nat} {r0 : Int32} (hm : m_X3_roughByHashes N σ v0 = some r0) : Met l yX3_roughByHashes (.code yX3_roughByHashes cX3_roughByHashes 2 (some .int) :: wsL_law) ({ frames := 0, cells := 0, slots := 0, locals := 0 } : Room) (va_Pc [.ref v0] (zP D ca A σ)) (zQi r0 D ca A σ) 0 0 A := by
  refine zMk (by decide +kernel) (Nat.le_of_ble_eq_true rfl) ?_
  intro p e s m below meth c C0 hr hlocks hin hW ls hl
  have hx := C0.1
  have hb := C0.2.1
  have hS : va_S A s.heap s.heap [] := va_S.rf
  have hl : lv_has ls 2 [(0, .ref v0)] := hl
  unfold m_X3_roughByHashes at hm
  refine lv_aload_n hx hb dX3_roughByHashes_0 rfl (lv_at hl 0 rfl) ?_
  replace hm := ob hm; obtain ⟨a1, e2, hm⟩ := hm
  refine r_getA C0 hW fl_X3_9 e2 dX3_roughByHashes_1 ?_
  refine lv_bipush (v := 7) hx hb dX3_roughByHashes_4 (by decide) ?_
  replace hm := ob hm; obtain ⟨x3, e4, hm⟩ := hm
  refine r_aI C0 hW e4 dX3_roughByHashes_6 ?_
  refine lv_iconst (v := 1) hx hb dX3_roughByHashes_7 (by decide) ?_
  refine lv_iadd hx hb dX3_roughByHashes_8 ?_
  replace hm := ob hm; obtain ⟨x5, e6, hm⟩ := hm
  refine z_top e6 ?_
  refine lv_istore_n (lv' := [(1, .int x5), (0, .ref v0)]) hx hb dX3_roughByHashes_9 rfl hl (by decide) rfl (fun ls hl => ?_)
  refine lv_aload_n hx hb dX3_roughByHashes_10 rfl (lv_at hl 1 rfl) ?_
  replace hm := ob hm; obtain ⟨x7, e8, hm⟩ := hm
  refine r_getI C0 hW fl_X3_31 e8 dX3_roughByHashes_11 ?_
  refine lv_bipush (v := 8) hx hb dX3_roughByHashes_14 (by decide) ?_
  refine lv_icmp_lt (tgt := 23) hx hb dX3_roughByHashes_16 (by decide) (fun h9 => ?_) (fun h9 => ?_)
  · rw [if_pos h9] at hm
    refine lv_aload_n hx hb dX3_roughByHashes_23 rfl (lv_at hl 1 rfl) ?_
    replace hm := ob hm; obtain ⟨x10, e11, hm⟩ := hm
    refine r_getI C0 hW fl_X3_31 e11 dX3_roughByHashes_24 ?_
    refine lv_goto (tgt := 34) hx hb dX3_roughByHashes_27 (by decide) ?_
    cases hm
    exact r_iret C0 hr hlocks hW hS dX3_roughByHashes_34
  · rw [if_neg h9] at hm
    refine lv_iload_n hx hb dX3_roughByHashes_19 rfl (lv_at hl 0 rfl) ?_
    refine lv_if_gt (tgt := 30) hx hb dX3_roughByHashes_20 (by decide) (fun h12 => ?_) (fun h12 => ?_)
    · rw [if_pos h12] at hm
      refine lv_ldc (v := 458752) hx hb C0.2.2.2.1 (C0.2.2.2.2.1 _ (zin_13 _ (List.mem_of_getElem? (i := 4) rfl))) dX3_roughByHashes_30 ?_
      refine lv_iload_n hx hb dX3_roughByHashes_32 rfl (lv_at hl 0 rfl) ?_
      replace hm := ob hm; obtain ⟨u13, e14, hm⟩ := hm
      refine lv_idiv hx hb dX3_roughByHashes_33 (ckD_ne e14) ?_
      cases hm
      exact r_iret C0 hr hlocks hW hS dX3_roughByHashes_34
    · rw [if_neg h12] at hm
      refine lv_aload_n hx hb dX3_roughByHashes_23 rfl (lv_at hl 1 rfl) ?_
      replace hm := ob hm; obtain ⟨x15, e16, hm⟩ := hm
      refine r_getI C0 hW fl_X3_31 e16 dX3_roughByHashes_24 ?_
      refine lv_goto (tgt := 34) hx hb dX3_roughByHashes_27 (by decide) ?_
      cases hm
      exact r_iret C0 hr hlocks hW hS dX3_roughByHashes_34
set_option maxHeartbeats 4000000 in
set_option maxRecDepth 100000 in
theorem w_X3_roughByRanks_L13 {p : Program} {l : Launch} {e : Env} {s : State} {m : MethodId} {args : Array Value} {below : List Frame} {meth : Method} {c : Code} {D : va_G} {ca : Nat → ClassId} {A : Nat → Prop} {Q : State → Prop} (N : Nat) : ∀ (n : Nat) {σ : zS} {v1 : Int32} {v2 : Nat} {v3 : Int32} {v4 : Int32} {y1 : Int32} {H : Heap} {locs : List Loc} {ls : Array Slot}, m_X3_roughByRanks_L13 N n σ v1 v2 v3 v4 = some y1 → zC p s m args c RX3 cX3_roughByRanks 6 D ca A → zW D ca A σ H → va_S A s.heap H locs → lv_has ls 6 [(1, .int v1), (2, .ref v2), (3, .int v3), (4, .int v4)] → (∀ (H : Heap) (locs : List Loc) (ls : Array Slot), zW D ca A σ H → va_S A s.heap H locs → lv_has ls 6 [(1, .int y1)] → W p l e ({ frames := 0, cells := 0, slots := 0, locals := 0 } : Room) s m args below meth c H locs 0 0 Q (F0 m 41 ls [])) → W p l e ({ frames := 0, cells := 0, slots := 0, locals := 0 } : Room) s m args below meth c H locs 0 0 Q (F0 m 13 ls []) := by
  intro n
  induction n with
  | zero =>
    intro σ v1 v2 v3 v4 y1 H locs ls hm C0 hW hS hl kk
    rw [m_X3_roughByRanks_L13] at hm
    cases hm
  | succ n ih =>
    intro σ v1 v2 v3 v4 y1 H locs ls hm C0 hW hS hl kk
    rw [m_X3_roughByRanks_L13] at hm
    have hx := C0.1
    have hb := C0.2.1
    refine lv_iload hx hb dX3_roughByRanks_13 (lv_at hl 3 rfl) ?_
    refine lv_iload_n hx hb dX3_roughByRanks_15 rfl (lv_at hl 2 rfl) ?_
    refine lv_icmp_ge (tgt := 41) hx hb dX3_roughByRanks_16 (by decide) (fun h5 => ?_) (fun h5 => ?_)
    · rw [if_pos h5] at hm
      cases hm
      exact kk _ _ _ hW hS (lv_sub hl [0] rfl)
    · rw [if_neg h5] at hm
      refine lv_aload_n hx hb dX3_roughByRanks_19 rfl (lv_at hl 1 rfl) ?_
      refine lv_iload hx hb dX3_roughByRanks_20 (lv_at hl 3 rfl) ?_
      replace hm := ob hm; obtain ⟨x6, e7, hm⟩ := hm
      refine r_aI C0 hW e7 dX3_roughByRanks_22 ?_
      refine lv_istore (lv' := [(5, .int x6), (1, .int v1), (2, .ref v2), (3, .int v3), (4, .int v4)]) hx hb dX3_roughByRanks_23 hl (by decide) rfl (fun ls hl => ?_)
      refine lv_iload_n hx hb dX3_roughByRanks_25 rfl (lv_at hl 1 rfl) ?_
      refine lv_iconst (v := 1) hx hb dX3_roughByRanks_26 (by decide) ?_
      refine lv_bipush (v := 14) hx hb dX3_roughByRanks_27 (by decide) ?_
      refine lv_iload hx hb dX3_roughByRanks_29 (lv_at hl 0 rfl) ?_
      refine lv_isub hx hb dX3_roughByRanks_31 ?_
      refine lv_ishl hx hb dX3_roughByRanks_32 ?_
      refine lv_iadd hx hb dX3_roughByRanks_33 ?_
      replace hm := ob hm; obtain ⟨x8, e9, hm⟩ := hm
      refine z_top e9 ?_
      refine lv_istore_n (lv' := [(1, .int x8), (5, .int x6), (2, .ref v2), (3, .int v3), (4, .int v4)]) hx hb dX3_roughByRanks_34 rfl hl (by decide) rfl (fun ls hl => ?_)
      replace hm := ob hm; obtain ⟨x10, e11, hm⟩ := hm
      refine lv_iinc (v := x10) (lv' := [(4, .int x10), (1, .int x8), (5, .int x6), (2, .ref v2), (3, .int v3)]) hx hb dX3_roughByRanks_35 hl (k := 4) rfl (Option.some.inj e11) (by decide) rfl (fun ls hl => ?_)
      refine lv_goto (tgt := 13) hx hb dX3_roughByRanks_38 (by decide) ?_
      exact ih hm C0 hW hS (lv_sub hl [1, 3, 4, 0] rfl) kk
set_option maxHeartbeats 4000000 in
set_option maxRecDepth 100000 in
theorem b_X3_roughByRanks {l : Launch} {D : va_G} {ca : Nat → ClassId} {A : Nat → Prop} {N : Nat} {σ : zS} {v0 : Nat} {r0 : Int32} (hm : m_X3_roughByRanks N σ v0 = some r0) : Met l yX3_roughByRanks (.code yX3_roughByRanks cX3_roughByRanks 6 (some .int) :: wsL_law) ({ frames := 0, cells := 0, slots := 0, locals := 0 } : Room) (va_Pc [.ref v0] (zP D ca A σ)) (zQi r0 D ca A σ) 0 0 A := by
  refine zMk (by decide +kernel) (Nat.le_of_ble_eq_true rfl) ?_
  intro p e s m below meth c C0 hr hlocks hin hW ls hl
  have hx := C0.1
  have hb := C0.2.1
  have hS : va_S A s.heap s.heap [] := va_S.rf
  have hl : lv_has ls 6 [(0, .ref v0)] := hl
  unfold m_X3_roughByRanks at hm
  refine lv_iconst (v := 0) hx hb dX3_roughByRanks_0 (by decide) ?_
  refine lv_istore_n (lv' := [(1, .int 0), (0, .ref v0)]) hx hb dX3_roughByRanks_1 rfl hl (by decide) rfl (fun ls hl => ?_)
  refine lv_aload_n hx hb dX3_roughByRanks_2 rfl (lv_at hl 1 rfl) ?_
  replace hm := ob hm; obtain ⟨a1, e2, hm⟩ := hm
  refine r_getA C0 hW fl_X3_15 e2 dX3_roughByRanks_3 ?_
  refine lv_astore_n (lv' := [(2, .ref a1), (1, .int 0), (0, .ref v0)]) hx hb dX3_roughByRanks_6 rfl hl (by decide) rfl (fun ls hl => ?_)
  refine lv_aload_n hx hb dX3_roughByRanks_7 rfl (lv_at hl 0 rfl) ?_
  replace hm := ob hm; obtain ⟨x3, e4, hm⟩ := hm
  refine r_aL (kd := 1) rfl C0 hW e4 dX3_roughByRanks_8 ?_
  refine lv_istore_n (lv' := [(3, .int x3), (2, .ref a1), (1, .int 0), (0, .ref v0)]) hx hb dX3_roughByRanks_9 rfl hl (by decide) rfl (fun ls hl => ?_)
  refine lv_iconst (v := 0) hx hb dX3_roughByRanks_10 (by decide) ?_
  refine lv_istore (lv' := [(4, .int 0), (3, .int x3), (2, .ref a1), (1, .int 0), (0, .ref v0)]) hx hb dX3_roughByRanks_11 hl (by decide) rfl (fun ls hl => ?_)
  replace hm := ob hm; obtain ⟨y12, e13, hm⟩ := hm
  refine w_X3_roughByRanks_L13 N N e13 C0 hW hS (lv_sub hl [3, 2, 1, 0] rfl) (fun H locs ls hW hS hl => ?_)
  refine lv_iload_n hx hb dX3_roughByRanks_41 rfl (lv_at hl 0 rfl) ?_
  refine lv_if_le (tgt := 52) hx hb dX3_roughByRanks_42 (by decide) (fun h14 => ?_) (fun h14 => ?_)
  · rw [if_pos h14] at hm
    refine lv_iconst (v := 0) hx hb dX3_roughByRanks_52 (by decide) ?_
    cases hm
    exact r_iret C0 hr hlocks hW hS dX3_roughByRanks_53
  · rw [if_neg h14] at hm
    refine lv_ldc (v := 655360) hx hb C0.2.2.2.1 (C0.2.2.2.2.1 _ (zin_13 _ (List.mem_of_getElem? (i := 9) rfl))) dX3_roughByRanks_45 ?_
    refine lv_iload_n hx hb dX3_roughByRanks_47 rfl (lv_at hl 0 rfl) ?_
    replace hm := ob hm; obtain ⟨u15, e16, hm⟩ := hm
    refine lv_idiv hx hb dX3_roughByRanks_48 (ckD_ne e16) ?_
    refine lv_goto (tgt := 53) hx hb dX3_roughByRanks_49 (by decide) ?_
    cases hm
    exact r_iret C0 hr hlocks hW hS dX3_roughByRanks_53
set_option maxHeartbeats 4000000 in
set_option maxRecDepth 100000 in
theorem b_X3_rough {l : Launch} {D : va_G} {ca : Nat → ClassId} {A : Nat → Prop} {N : Nat} {σ : zS} {v0 : Nat} {r0 : Int32} (hm : m_X3_rough N σ v0 = some r0) : Met l yX3_rough (.code yX3_rough cX3_rough 2 (some .int) :: wsL_law) ({ frames := 1, cells := 0, slots := 0, locals := 25 } : Room) (va_Pc [.ref v0] (zP D ca A σ)) (zQi r0 D ca A σ) 0 0 A := by
  refine zMk (by decide +kernel) (Nat.le_of_ble_eq_true rfl) ?_
  intro p e s m below meth c C0 hr hlocks hin hW ls hl
  have hx := C0.1
  have hb := C0.2.1
  have hS : va_S A s.heap s.heap [] := va_S.rf
  have hl : lv_has ls 2 [(0, .ref v0)] := hl
  unfold m_X3_rough at hm
  refine lv_aload_n hx hb dX3_rough_0 rfl (lv_at hl 0 rfl) ?_
  replace hm := ob hm; obtain ⟨x1, e2, hm⟩ := hm
  refine r_getI C0 hW fl_X3_18 e2 dX3_rough_1 ?_
  refine lv_if_ne (tgt := 23) hx hb dX3_rough_4 (by decide) (fun h3 => ?_) (fun h3 => ?_)
  · rw [if_neg h3] at hm
    refine lv_aload_n hx hb dX3_rough_23 rfl (lv_at hl 0 rfl) ?_
    replace hm := ob hm; obtain ⟨x4, e5, hm⟩ := hm
    refine r_getI C0 hW fl_X3_18 e5 dX3_rough_24 ?_
    refine lv_iconst (v := 1) hx hb dX3_rough_27 (by decide) ?_
    refine lv_icmp_ne (tgt := 36) hx hb dX3_rough_28 (by decide) (fun h6 => ?_) (fun h6 => ?_)
    · rw [if_neg h6] at hm
      refine lv_bipush (v := 8) hx hb dX3_rough_36 (by decide) ?_
      refine lv_aload_n hx hb dX3_rough_38 rfl (lv_at hl 0 rfl) ?_
      replace hm := ob hm; obtain ⟨u7, e8, hm⟩ := hm
      replace hm := ob hm; obtain ⟨x10, e9, hm⟩ := hm
      refine z_calli (z_runV (As := []) (rest := [.int 8]) (ci := 3) rfl rfl C0 lv_X3_89 (b_X3_filledRegisters e9) hW hS e8 rfl hl.1 rfl (Nat.le_of_ble_eq_true rfl) dX3_rough_39 rfl rfl ⟨Nat.le_of_ble_eq_true rfl, Nat.le_of_ble_eq_true rfl⟩ ⟨Nat.le_refl _, Nat.le_refl _⟩) hS (fun H locs hW hS => ?_)
      refine lv_isub hx hb dX3_rough_42 ?_
      replace hm := ob hm; obtain ⟨x11, e12, hm⟩ := hm
      refine z_top e12 ?_
      refine lv_istore_n (lv' := [(1, .int x11), (0, .ref v0)]) hx hb dX3_rough_43 rfl hl (by decide) rfl (fun ls hl => ?_)
      refine lv_iload_n hx hb dX3_rough_44 rfl (lv_at hl 0 rfl) ?_
      refine lv_if_le (tgt := 57) hx hb dX3_rough_45 (by decide) (fun h13 => ?_) (fun h13 => ?_)
      · rw [if_pos h13] at hm
        refine lv_aload_n hx hb dX3_rough_57 rfl (lv_at hl 1 rfl) ?_
        replace hm := ob hm; obtain ⟨u14, e15, hm⟩ := hm
        replace hm := ob hm; obtain ⟨x17, e16, hm⟩ := hm
        refine z_calli (z_runV (As := []) (rest := []) (ci := 3) rfl rfl C0 lv_X3_99 (b_X3_roughByRanks e16) hW hS e15 rfl hl.1 rfl (Nat.le_of_ble_eq_true rfl) dX3_rough_58 rfl rfl ⟨Nat.le_of_ble_eq_true rfl, Nat.le_of_ble_eq_true rfl⟩ ⟨Nat.le_refl _, Nat.le_refl _⟩) hS (fun H locs hW hS => ?_)
        cases hm
        exact r_iret C0 hr hlocks hW hS dX3_rough_61
      · rw [if_neg h13] at hm
        refine lv_bipush (v := 8) hx hb dX3_rough_48 (by decide) ?_
        refine lv_iload_n hx hb dX3_rough_50 rfl (lv_at hl 0 rfl) ?_
        replace hm := ob hm; obtain ⟨x19, e18, hm⟩ := hm
        refine z_calli (z_runN (As := [.int 8, .int x11]) (rest := []) C0 ln_X3_93 (b_X8_spread e18) hW hS rfl hl.1 rfl (Nat.le_of_ble_eq_true rfl) dX3_rough_51 rfl rfl ⟨Nat.le_of_ble_eq_true rfl, Nat.le_of_ble_eq_true rfl⟩ ⟨Nat.le_refl _, Nat.le_refl _⟩) hS (fun H locs hW hS => ?_)
        refine lv_goto (tgt := 61) hx hb dX3_rough_54 (by decide) ?_
        cases hm
        exact r_iret C0 hr hlocks hW hS dX3_rough_61
    · rw [if_pos h6] at hm
      refine lv_aload_n hx hb dX3_rough_31 rfl (lv_at hl 0 rfl) ?_
      replace hm := ob hm; obtain ⟨u20, e21, hm⟩ := hm
      replace hm := ob hm; obtain ⟨x23, e22, hm⟩ := hm
      refine z_calli (z_runV (As := []) (rest := []) (ci := 3) rfl rfl C0 lv_X3_96 (b_X3_roughByHashes e22) hW hS e21 rfl hl.1 rfl (Nat.le_of_ble_eq_true rfl) dX3_rough_32 rfl rfl ⟨Nat.le_of_ble_eq_true rfl, Nat.le_of_ble_eq_true rfl⟩ ⟨Nat.le_refl _, Nat.le_refl _⟩) hS (fun H locs hW hS => ?_)
      cases hm
      exact r_iret C0 hr hlocks hW hS dX3_rough_35
  · rw [if_pos h3] at hm
    refine lv_bipush (v := 32) hx hb dX3_rough_7 (by decide) ?_
    refine lv_bipush (v := 32) hx hb dX3_rough_9 (by decide) ?_
    refine lv_aload_n hx hb dX3_rough_11 rfl (lv_at hl 0 rfl) ?_
    replace hm := ob hm; obtain ⟨x24, e25, hm⟩ := hm
    refine r_getI C0 hW fl_X3_28 e25 dX3_rough_12 ?_
    replace hm := ob hm; obtain ⟨x27, e26, hm⟩ := hm
    refine z_calli (z_runS (As := [.int x24]) (rest := [.int 32, .int 32]) C0 ls_X3_84 (b_J6_bitCount_0f7a4 e26) hW hS rfl hl.1 rfl (Nat.le_of_ble_eq_true rfl) dX3_rough_15 rfl rfl ⟨Nat.le_of_ble_eq_true rfl, Nat.le_of_ble_eq_true rfl⟩ ⟨Nat.le_refl _, Nat.le_refl _⟩) hS (fun H locs hW hS => ?_)
    refine lv_isub hx hb dX3_rough_18 ?_
    replace hm := ob hm; obtain ⟨x29, e28, hm⟩ := hm
    refine z_calli (z_runN (As := [.int 32, .int (32 - x27)]) (rest := []) C0 ln_X3_93 (b_X8_spread e28) hW hS rfl hl.1 rfl (Nat.le_of_ble_eq_true rfl) dX3_rough_19 rfl rfl ⟨Nat.le_of_ble_eq_true rfl, Nat.le_of_ble_eq_true rfl⟩ ⟨Nat.le_refl _, Nat.le_refl _⟩) hS (fun H locs hW hS => ?_)
    cases hm
    exact r_iret C0 hr hlocks hW hS dX3_rough_22
set_option maxHeartbeats 4000000 in
set_option maxRecDepth 100000 in
theorem b_X3_take {l : Launch} {D : va_G} {ca : Nat → ClassId} {A : Nat → Prop} {N : Nat} {σ : zS} {v0 : Nat} {v1 : Int32} {σ' : zS} (hm : m_X3_take N σ v0 v1 = some σ') : Met l yX3_take (.code yX3_take cX3_take 3 none :: wsL_law) ({ frames := 2, cells := 0, slots := 0, locals := 49 } : Room) (va_Pc [.ref v0, .int v1] (zP D ca A σ)) (zQv D ca A σ') 0 0 A := by
  refine zMk (by decide +kernel) (Nat.le_of_ble_eq_true rfl) ?_
  intro p e s m below meth c C0 hr hlocks hin hW ls hl
  have hx := C0.1
  have hb := C0.2.1
  have hS : va_S A s.heap s.heap [] := va_S.rf
  have hl : lv_has ls 3 [(0, .ref v0), (1, .int v1)] := hl
  unfold m_X3_take at hm
  refine lv_iload_n hx hb dX3_take_0 rfl (lv_at hl 1 rfl) ?_
  refine lv_aload_n hx hb dX3_take_1 rfl (lv_at hl 0 rfl) ?_
  replace hm := ob hm; obtain ⟨x1, e2, hm⟩ := hm
  refine r_getI C0 hW fl_X3_22 e2 dX3_take_2 ?_
  replace hm := ob hm; obtain ⟨x4, e3, hm⟩ := hm
  refine z_calli (z_runN (As := [.int v1, .int x1]) (rest := []) C0 ln_X3_46 (b_X8_hashOf e3) hW hS rfl hl.1 rfl (Nat.le_of_ble_eq_true rfl) dX3_take_5 rfl rfl ⟨Nat.le_of_ble_eq_true rfl, Nat.le_of_ble_eq_true rfl⟩ ⟨Nat.le_refl _, Nat.le_refl _⟩) hS (fun H locs hW hS => ?_)
  refine lv_istore_n (lv' := [(2, .int x4), (0, .ref v0), (1, .int v1)]) hx hb dX3_take_8 rfl hl (by decide) rfl (fun ls hl => ?_)
  refine lv_aload_n hx hb dX3_take_9 rfl (lv_at hl 1 rfl) ?_
  refine lv_aload_n hx hb dX3_take_10 rfl (lv_at hl 1 rfl) ?_
  replace hm := ob hm; obtain ⟨x5, e6, hm⟩ := hm
  refine r_getI C0 hW fl_X3_25 e6 dX3_take_11 ?_
  refine lv_iconst (v := 1) hx hb dX3_take_14 (by decide) ?_
  refine lv_iadd hx hb dX3_take_15 ?_
  refine lv_ldc (v := 1000000000) hx hb C0.2.2.2.1 (C0.2.2.2.2.1 _ (zin_10 _ (List.mem_of_getElem? (i := 11) rfl))) dX3_take_16 ?_
  refine r_min C0 lb_X3_51 hl.1 (Nat.le_of_ble_eq_true rfl) (Nat.le_of_ble_eq_true rfl) ⟨Nat.le_refl _, Nat.le_refl _⟩ dX3_take_18 ?_
  replace hm := ob hm; obtain ⟨σ7, e8, hm⟩ := hm
  refine r_putI C0 hW hS fl_X3_25 e8 dX3_take_21 (fun H locs hW hS => ?_)
  refine lv_aload_n hx hb dX3_take_24 rfl (lv_at hl 1 rfl) ?_
  replace hm := ob hm; obtain ⟨x9, e10, hm⟩ := hm
  refine r_getI C0 hW fl_X3_18 e10 dX3_take_25 ?_
  refine lv_if_ne (tgt := 48) hx hb dX3_take_28 (by decide) (fun h11 => ?_) (fun h11 => ?_)
  · rw [if_neg h11] at hm
    refine lv_aload_n hx hb dX3_take_48 rfl (lv_at hl 1 rfl) ?_
    replace hm := ob hm; obtain ⟨x12, e13, hm⟩ := hm
    refine r_getI C0 hW fl_X3_18 e13 dX3_take_49 ?_
    refine lv_iconst (v := 1) hx hb dX3_take_52 (by decide) ?_
    refine lv_icmp_ne (tgt := 64) hx hb dX3_take_53 (by decide) (fun h14 => ?_) (fun h14 => ?_)
    · rw [if_neg h14] at hm
      refine lv_aload_n hx hb dX3_take_64 rfl (lv_at hl 1 rfl) ?_
      refine lv_aload_n hx hb dX3_take_65 rfl (lv_at hl 1 rfl) ?_
      refine lv_iload_n hx hb dX3_take_66 rfl (lv_at hl 0 rfl) ?_
      replace hm := ob hm; obtain ⟨u15, e16, hm⟩ := hm
      replace hm := ob hm; obtain ⟨x18, e17, hm⟩ := hm
      refine z_calli (z_runV (As := [.int x4]) (rest := [.ref v0]) (ci := 3) rfl rfl C0 lv_X3_64 (b_X3_registerOf e17) hW hS e16 rfl hl.1 rfl (Nat.le_of_ble_eq_true rfl) dX3_take_67 rfl rfl ⟨Nat.le_of_ble_eq_true rfl, Nat.le_of_ble_eq_true rfl⟩ ⟨Nat.le_refl _, Nat.le_refl _⟩) hS (fun H locs hW hS => ?_)
      refine lv_iload_n hx hb dX3_take_70 rfl (lv_at hl 0 rfl) ?_
      refine lv_bipush (v := 8) hx hb dX3_take_71 (by decide) ?_
      refine lv_idiv hx hb dX3_take_73 (by decide) ?_
      replace hm := ob hm; obtain ⟨x20, e19, hm⟩ := hm
      refine z_calli (z_runN (As := [.int (x4 / 8)]) (rest := [.int x18, .ref v0]) C0 ln_X3_67 (b_X8_rankOf e19) hW hS rfl hl.1 rfl (Nat.le_of_ble_eq_true rfl) dX3_take_74 rfl rfl ⟨Nat.le_of_ble_eq_true rfl, Nat.le_of_ble_eq_true rfl⟩ ⟨Nat.le_refl _, Nat.le_refl _⟩) hS (fun H locs hW hS => ?_)
      replace hm := ob hm; obtain ⟨u21, e22, hm⟩ := hm
      replace hm := ob hm; obtain ⟨σ24, e23, hm⟩ := hm
      refine z_callv (z_runV (As := [.int x18, .int x20]) (rest := []) (ci := 3) rfl rfl C0 lv_X3_70 (b_X3_raise e23) hW hS e22 rfl hl.1 rfl (Nat.le_of_ble_eq_true rfl) dX3_take_77 rfl rfl ⟨Nat.le_of_ble_eq_true rfl, Nat.le_of_ble_eq_true rfl⟩ ⟨Nat.le_refl _, Nat.le_refl _⟩) hS (fun H locs hW hS => ?_)
      cases hm
      exact r_vret C0 hr hlocks hW hS dX3_take_80
    · rw [if_pos h14] at hm
      refine lv_aload_n hx hb dX3_take_56 rfl (lv_at hl 1 rfl) ?_
      refine lv_iload_n hx hb dX3_take_57 rfl (lv_at hl 0 rfl) ?_
      replace hm := ob hm; obtain ⟨u25, e26, hm⟩ := hm
      replace hm := ob hm; obtain ⟨σ28, e27, hm⟩ := hm
      refine z_callv (z_runV (As := [.int x4]) (rest := []) (ci := 3) rfl rfl C0 lv_X3_60 (b_X3_keepHash e27) hW hS e26 rfl hl.1 rfl (Nat.le_of_ble_eq_true rfl) dX3_take_58 rfl rfl ⟨Nat.le_of_ble_eq_true rfl, Nat.le_of_ble_eq_true rfl⟩ ⟨Nat.le_refl _, Nat.le_refl _⟩) hS (fun H locs hW hS => ?_)
      refine lv_goto (tgt := 80) hx hb dX3_take_61 (by decide) ?_
      cases hm
      exact r_vret C0 hr hlocks hW hS dX3_take_80
  · rw [if_pos h11] at hm
    refine lv_aload_n hx hb dX3_take_31 rfl (lv_at hl 1 rfl) ?_
    refine lv_dup hx hb dX3_take_32 rfl ?_
    replace hm := ob hm; obtain ⟨x29, e30, hm⟩ := hm
    refine r_getI C0 hW fl_X3_28 e30 dX3_take_33 ?_
    refine lv_aload_n hx hb dX3_take_36 rfl (lv_at hl 1 rfl) ?_
    refine lv_iload_n hx hb dX3_take_37 rfl (lv_at hl 0 rfl) ?_
    replace hm := ob hm; obtain ⟨u31, e32, hm⟩ := hm
    replace hm := ob hm; obtain ⟨x34, e33, hm⟩ := hm
    refine z_calli (z_runV (As := [.int x4]) (rest := [.int x29, .ref v0]) (ci := 3) rfl rfl C0 lv_X3_56 (b_X3_bitOf e33) hW hS e32 rfl hl.1 rfl (Nat.le_of_ble_eq_true rfl) dX3_take_38 rfl rfl ⟨Nat.le_of_ble_eq_true rfl, Nat.le_of_ble_eq_true rfl⟩ ⟨Nat.le_refl _, Nat.le_refl _⟩) hS (fun H locs hW hS => ?_)
    refine lv_ior hx hb dX3_take_41 ?_
    replace hm := ob hm; obtain ⟨σ35, e36, hm⟩ := hm
    refine r_putI C0 hW hS fl_X3_28 e36 dX3_take_42 (fun H locs hW hS => ?_)
    refine lv_goto (tgt := 80) hx hb dX3_take_45 (by decide) ?_
    cases hm
    exact r_vret C0 hr hlocks hW hS dX3_take_80
set_option maxHeartbeats 4000000 in
set_option maxRecDepth 100000 in
theorem b_X3_told {l : Launch} {D : va_G} {ca : Nat → ClassId} {A : Nat → Prop} {N : Nat} {σ : zS} {v0 : Nat} {r0 : Int32} (hm : m_X3_told N σ v0 = some r0) : Met l yX3_told (.code yX3_told cX3_told 1 (some .int) :: wsL_law) ({ frames := 2, cells := 0, slots := 0, locals := 46 } : Room) (va_Pc [.ref v0] (zP D ca A σ)) (zQi r0 D ca A σ) 0 0 A := by
  refine zMk (by decide +kernel) (Nat.le_of_ble_eq_true rfl) ?_
  intro p e s m below meth c C0 hr hlocks hin hW ls hl
  have hx := C0.1
  have hb := C0.2.1
  have hS : va_S A s.heap s.heap [] := va_S.rf
  have hl : lv_has ls 1 [(0, .ref v0)] := hl
  unfold m_X3_told at hm
  refine lv_aload_n hx hb dX3_told_0 rfl (lv_at hl 0 rfl) ?_
  replace hm := ob hm; obtain ⟨u1, e2, hm⟩ := hm
  replace hm := ob hm; obtain ⟨x4, e3, hm⟩ := hm
  refine z_calli (z_runV (As := []) (rest := []) (ci := 3) rfl rfl C0 lv_X3_104 (b_X3_low e3) hW hS e2 rfl hl.1 rfl (Nat.le_of_ble_eq_true rfl) dX3_told_1 rfl rfl ⟨Nat.le_of_ble_eq_true rfl, Nat.le_of_ble_eq_true rfl⟩ ⟨Nat.le_refl _, Nat.le_refl _⟩) hS (fun H locs hW hS => ?_)
  refine lv_aload_n hx hb dX3_told_4 rfl (lv_at hl 0 rfl) ?_
  replace hm := ob hm; obtain ⟨u5, e6, hm⟩ := hm
  replace hm := ob hm; obtain ⟨x8, e7, hm⟩ := hm
  refine z_calli (z_runV (As := []) (rest := [.int x4]) (ci := 3) rfl rfl C0 lv_X3_107 (b_X3_rough e7) hW hS e6 rfl hl.1 rfl (Nat.le_of_ble_eq_true rfl) dX3_told_5 rfl rfl ⟨Nat.le_of_ble_eq_true rfl, Nat.le_of_ble_eq_true rfl⟩ ⟨Nat.le_refl _, Nat.le_refl _⟩) hS (fun H locs hW hS => ?_)
  refine lv_aload_n hx hb dX3_told_8 rfl (lv_at hl 0 rfl) ?_
  replace hm := ob hm; obtain ⟨u9, e10, hm⟩ := hm
  replace hm := ob hm; obtain ⟨x12, e11, hm⟩ := hm
  refine z_calli (z_runV (As := []) (rest := [.int x8, .int x4]) (ci := 3) rfl rfl C0 lv_X3_110 (b_X3_high e11) hW hS e10 rfl hl.1 rfl (Nat.le_of_ble_eq_true rfl) dX3_told_9 rfl rfl ⟨Nat.le_of_ble_eq_true rfl, Nat.le_of_ble_eq_true rfl⟩ ⟨Nat.le_refl _, Nat.le_refl _⟩) hS (fun H locs hW hS => ?_)
  refine r_min C0 lb_X3_51 hl.1 (Nat.le_of_ble_eq_true rfl) (Nat.le_of_ble_eq_true rfl) ⟨Nat.le_refl _, Nat.le_refl _⟩ dX3_told_12 ?_
  refine r_max C0 lb_X3_81 hl.1 (Nat.le_of_ble_eq_true rfl) (Nat.le_of_ble_eq_true rfl) ⟨Nat.le_refl _, Nat.le_refl _⟩ dX3_told_15 ?_
  cases hm
  exact r_iret C0 hr hlocks hW hS dX3_told_18
set_option maxHeartbeats 4000000 in
set_option maxRecDepth 100000 in
theorem w_X3_unite_L33 {p : Program} {l : Launch} {e : Env} {s : State} {m : MethodId} {args : Array Value} {below : List Frame} {meth : Method} {c : Code} {D : va_G} {ca : Nat → ClassId} {A : Nat → Prop} {Q : State → Prop} (N : Nat) : ∀ (n : Nat) {σ : zS} {v0 : Nat} {v1 : Nat} {v2 : Int32} {σ' : zS} {H : Heap} {locs : List Loc} {ls : Array Slot}, m_X3_unite_L33 N n σ v0 v1 v2 = some σ' → zC p s m args c RX3 cX3_unite 3 D ca A → zW D ca A σ H → va_S A s.heap H locs → lv_has ls 3 [(0, .ref v0), (1, .ref v1), (2, .int v2)] → (∀ (H : Heap) (locs : List Loc) (ls : Array Slot), zW D ca A σ' H → va_S A s.heap H locs → lv_has ls 3 [(0, .ref v0), (1, .ref v1)] → W p l e ({ frames := 2, cells := 0, slots := 0, locals := 49 } : Room) s m args below meth c H locs 0 0 Q (F0 m 63 ls [])) → W p l e ({ frames := 2, cells := 0, slots := 0, locals := 49 } : Room) s m args below meth c H locs 0 0 Q (F0 m 33 ls []) := by
  intro n
  induction n with
  | zero =>
    intro σ v0 v1 v2 σ' H locs ls hm C0 hW hS hl kk
    rw [m_X3_unite_L33] at hm
    cases hm
  | succ n ih =>
    intro σ v0 v1 v2 σ' H locs ls hm C0 hW hS hl kk
    rw [m_X3_unite_L33] at hm
    have hx := C0.1
    have hb := C0.2.1
    refine lv_iload_n hx hb dX3_unite_33 rfl (lv_at hl 2 rfl) ?_
    refine lv_aload_n hx hb dX3_unite_34 rfl (lv_at hl 1 rfl) ?_
    replace hm := ob hm; obtain ⟨x13, e14, hm⟩ := hm
    refine r_getI C0 hW fl_X3_31 e14 dX3_unite_35 ?_
    refine lv_icmp_ge (tgt := 63) hx hb dX3_unite_38 (by decide) (fun h15 => ?_) (fun h15 => ?_)
    · rw [if_pos h15] at hm
      cases hm
      exact kk _ _ _ hW hS (lv_sub hl [0, 1] rfl)
    · rw [if_neg h15] at hm
      refine lv_iload_n hx hb dX3_unite_41 rfl (lv_at hl 2 rfl) ?_
      refine lv_bipush (v := 8) hx hb dX3_unite_42 (by decide) ?_
      refine lv_icmp_ge (tgt := 63) hx hb dX3_unite_44 (by decide) (fun h16 => ?_) (fun h16 => ?_)
      · rw [if_pos h16] at hm
        cases hm
        exact kk _ _ _ hW hS (lv_sub hl [0, 1] rfl)
      · rw [if_neg h16] at hm
        refine lv_aload_n hx hb dX3_unite_47 rfl (lv_at hl 0 rfl) ?_
        refine lv_aload_n hx hb dX3_unite_48 rfl (lv_at hl 1 rfl) ?_
        replace hm := ob hm; obtain ⟨a17, e18, hm⟩ := hm
        refine r_getA C0 hW fl_X3_9 e18 dX3_unite_49 ?_
        refine lv_iload_n hx hb dX3_unite_52 rfl (lv_at hl 2 rfl) ?_
        replace hm := ob hm; obtain ⟨x19, e20, hm⟩ := hm
        refine r_aI C0 hW e20 dX3_unite_53 ?_
        replace hm := ob hm; obtain ⟨u21, e22, hm⟩ := hm
        replace hm := ob hm; obtain ⟨σ24, e23, hm⟩ := hm
        refine z_callv (z_runV (As := [.int x19]) (rest := []) (ci := 3) rfl rfl C0 lv_X3_60 (b_X3_keepHash e23) hW hS e22 rfl hl.1 rfl (Nat.le_of_ble_eq_true rfl) dX3_unite_54 rfl rfl ⟨Nat.le_of_ble_eq_true rfl, Nat.le_of_ble_eq_true rfl⟩ ⟨Nat.le_refl _, Nat.le_refl _⟩) hS (fun H locs hW hS => ?_)
        replace hm := ob hm; obtain ⟨x25, e26, hm⟩ := hm
        refine lv_iinc (v := x25) (lv' := [(2, .int x25), (0, .ref v0), (1, .ref v1)]) hx hb dX3_unite_57 hl (k := 2) rfl (Option.some.inj e26) (by decide) rfl (fun ls hl => ?_)
        refine lv_goto (tgt := 33) hx hb dX3_unite_60 (by decide) ?_
        exact ih hm C0 hW hS (lv_sub hl [1, 2, 0] rfl) kk
set_option maxHeartbeats 4000000 in
set_option maxRecDepth 100000 in
theorem w_X3_unite_L65 {p : Program} {l : Launch} {e : Env} {s : State} {m : MethodId} {args : Array Value} {below : List Frame} {meth : Method} {c : Code} {D : va_G} {ca : Nat → ClassId} {A : Nat → Prop} {Q : State → Prop} (N : Nat) : ∀ (n : Nat) {σ : zS} {v0 : Nat} {v1 : Nat} {v2 : Int32} {σ' : zS} {H : Heap} {locs : List Loc} {ls : Array Slot}, m_X3_unite_L65 N n σ v0 v1 v2 = some σ' → zC p s m args c RX3 cX3_unite 3 D ca A → zW D ca A σ H → va_S A s.heap H locs → lv_has ls 3 [(0, .ref v0), (1, .ref v1), (2, .int v2)] → (∀ (H : Heap) (locs : List Loc) (ls : Array Slot), zW D ca A σ' H → va_S A s.heap H locs → lv_has ls 3 [] → W p l e ({ frames := 2, cells := 0, slots := 0, locals := 49 } : Room) s m args below meth c H locs 0 0 Q (F0 m 88 ls [])) → W p l e ({ frames := 2, cells := 0, slots := 0, locals := 49 } : Room) s m args below meth c H locs 0 0 Q (F0 m 65 ls []) := by
  intro n
  induction n with
  | zero =>
    intro σ v0 v1 v2 σ' H locs ls hm C0 hW hS hl kk
    rw [m_X3_unite_L65] at hm
    cases hm
  | succ n ih =>
    intro σ v0 v1 v2 σ' H locs ls hm C0 hW hS hl kk
    rw [m_X3_unite_L65] at hm
    have hx := C0.1
    have hb := C0.2.1
    refine lv_iload_n hx hb dX3_unite_65 rfl (lv_at hl 2 rfl) ?_
    refine lv_bipush (v := 8) hx hb dX3_unite_66 (by decide) ?_
    refine lv_icmp_ge (tgt := 88) hx hb dX3_unite_68 (by decide) (fun h29 => ?_) (fun h29 => ?_)
    · rw [if_pos h29] at hm
      cases hm
      exact kk _ _ _ hW hS (lv_sub hl [] rfl)
    · rw [if_neg h29] at hm
      refine lv_aload_n hx hb dX3_unite_71 rfl (lv_at hl 0 rfl) ?_
      refine lv_iload_n hx hb dX3_unite_72 rfl (lv_at hl 2 rfl) ?_
      refine lv_aload_n hx hb dX3_unite_73 rfl (lv_at hl 1 rfl) ?_
      replace hm := ob hm; obtain ⟨a30, e31, hm⟩ := hm
      refine r_getA C0 hW fl_X3_15 e31 dX3_unite_74 ?_
      refine lv_iload_n hx hb dX3_unite_77 rfl (lv_at hl 2 rfl) ?_
      replace hm := ob hm; obtain ⟨x32, e33, hm⟩ := hm
      refine r_aI C0 hW e33 dX3_unite_78 ?_
      replace hm := ob hm; obtain ⟨u34, e35, hm⟩ := hm
      replace hm := ob hm; obtain ⟨σ37, e36, hm⟩ := hm
      refine z_callv (z_runV (As := [.int v2, .int x32]) (rest := []) (ci := 3) rfl rfl C0 lv_X3_70 (b_X3_raise e36) hW hS e35 rfl hl.1 rfl (Nat.le_of_ble_eq_true rfl) dX3_unite_79 rfl rfl ⟨Nat.le_of_ble_eq_true rfl, Nat.le_of_ble_eq_true rfl⟩ ⟨Nat.le_refl _, Nat.le_refl _⟩) hS (fun H locs hW hS => ?_)
      replace hm := ob hm; obtain ⟨x38, e39, hm⟩ := hm
      refine lv_iinc (v := x38) (lv' := [(2, .int x38), (0, .ref v0), (1, .ref v1)]) hx hb dX3_unite_82 hl (k := 2) rfl (Option.some.inj e39) (by decide) rfl (fun ls hl => ?_)
      refine lv_goto (tgt := 65) hx hb dX3_unite_85 (by decide) ?_
      exact ih hm C0 hW hS (lv_sub hl [1, 2, 0] rfl) kk
set_option maxHeartbeats 4000000 in
set_option maxRecDepth 100000 in
theorem b_X3_unite {l : Launch} {D : va_G} {ca : Nat → ClassId} {A : Nat → Prop} {N : Nat} {σ : zS} {v0 : Nat} {v1 : Nat} {σ' : zS} (hm : m_X3_unite N σ v0 v1 = some σ') : Met l yX3_unite (.code yX3_unite cX3_unite 3 none :: wsL_law) ({ frames := 2, cells := 0, slots := 0, locals := 49 } : Room) (va_Pc [.ref v0, .ref v1] (zP D ca A σ)) (zQv D ca A σ') 0 0 A := by
  refine zMk (by decide +kernel) (Nat.le_of_ble_eq_true rfl) ?_
  intro p e s m below meth c C0 hr hlocks hin hW ls hl
  have hx := C0.1
  have hb := C0.2.1
  have hS : va_S A s.heap s.heap [] := va_S.rf
  have hl : lv_has ls 3 [(0, .ref v0), (1, .ref v1)] := hl
  unfold m_X3_unite at hm
  refine lv_aload_n hx hb dX3_unite_0 rfl (lv_at hl 0 rfl) ?_
  refine lv_aload_n hx hb dX3_unite_1 rfl (lv_at hl 0 rfl) ?_
  replace hm := ob hm; obtain ⟨x1, e2, hm⟩ := hm
  refine r_getI C0 hW fl_X3_25 e2 dX3_unite_2 ?_
  refine lv_aload_n hx hb dX3_unite_5 rfl (lv_at hl 1 rfl) ?_
  replace hm := ob hm; obtain ⟨x3, e4, hm⟩ := hm
  refine r_getI C0 hW fl_X3_25 e4 dX3_unite_6 ?_
  refine lv_iadd hx hb dX3_unite_9 ?_
  refine lv_ldc (v := 1000000000) hx hb C0.2.2.2.1 (C0.2.2.2.2.1 _ (zin_10 _ (List.mem_of_getElem? (i := 11) rfl))) dX3_unite_10 ?_
  refine r_min C0 lb_X3_51 hl.1 (Nat.le_of_ble_eq_true rfl) (Nat.le_of_ble_eq_true rfl) ⟨Nat.le_refl _, Nat.le_refl _⟩ dX3_unite_12 ?_
  replace hm := ob hm; obtain ⟨σ5, e6, hm⟩ := hm
  refine r_putI C0 hW hS fl_X3_25 e6 dX3_unite_15 (fun H locs hW hS => ?_)
  refine lv_aload_n hx hb dX3_unite_18 rfl (lv_at hl 0 rfl) ?_
  refine lv_dup hx hb dX3_unite_19 rfl ?_
  replace hm := ob hm; obtain ⟨x7, e8, hm⟩ := hm
  refine r_getI C0 hW fl_X3_28 e8 dX3_unite_20 ?_
  refine lv_aload_n hx hb dX3_unite_23 rfl (lv_at hl 1 rfl) ?_
  replace hm := ob hm; obtain ⟨x9, e10, hm⟩ := hm
  refine r_getI C0 hW fl_X3_28 e10 dX3_unite_24 ?_
  refine lv_ior hx hb dX3_unite_27 ?_
  replace hm := ob hm; obtain ⟨σ11, e12, hm⟩ := hm
  refine r_putI C0 hW hS fl_X3_28 e12 dX3_unite_28 (fun H locs hW hS => ?_)
  refine lv_iconst (v := 0) hx hb dX3_unite_31 (by decide) ?_
  refine lv_istore_n (lv' := [(2, .int 0), (0, .ref v0), (1, .ref v1)]) hx hb dX3_unite_32 rfl hl (by decide) rfl (fun ls hl => ?_)
  replace hm := ob hm; obtain ⟨σ27, e28, hm⟩ := hm
  refine w_X3_unite_L33 N N e28 C0 hW hS (lv_sub hl [1, 2, 0] rfl) (fun H locs ls hW hS hl => ?_)
  refine lv_iconst (v := 0) hx hb dX3_unite_63 (by decide) ?_
  refine lv_istore_n (lv' := [(2, .int 0), (0, .ref v0), (1, .ref v1)]) hx hb dX3_unite_64 rfl hl (by decide) rfl (fun ls hl => ?_)
  replace hm := ob hm; obtain ⟨σ40, e41, hm⟩ := hm
  refine w_X3_unite_L65 N N e41 C0 hW hS (lv_sub hl [1, 2, 0] rfl) (fun H locs ls hW hS hl => ?_)
  cases hm
  exact r_vret C0 hr hlocks hW hS dX3_unite_88
set_option maxHeartbeats 4000000 in
set_option maxRecDepth 100000 in
theorem b_X5_begin {l : Launch} {D : va_G} {ca : Nat → ClassId} {A : Nat → Prop} {N : Nat} {σ : zS} {v0 : Nat} {v1 : Int32} {v2 : Int32} {σ' : zS} (hm : m_X5_begin N σ v0 v1 v2 = some σ') : Met l yX5_begin (.code yX5_begin cX5_begin 3 none :: wsL_law) ({ frames := 2, cells := 0, slots := 0, locals := 45 } : Room) (va_Pc [.ref v0, .int v1, .int v2] (zP D ca A σ)) (zQv D ca A σ') 0 0 A := by
  refine zMk (by decide +kernel) (Nat.le_of_ble_eq_true rfl) ?_
  intro p e s m below meth c C0 hr hlocks hin hW ls hl
  have hx := C0.1
  have hb := C0.2.1
  have hS : va_S A s.heap s.heap [] := va_S.rf
  have hl : lv_has ls 3 [(0, .ref v0), (1, .int v1), (2, .int v2)] := hl
  unfold m_X5_begin at hm
  refine lv_aload_n hx hb dX5_begin_0 rfl (lv_at hl 0 rfl) ?_
  replace hm := ob hm; obtain ⟨a1, e2, hm⟩ := hm
  refine r_getA C0 hW fl_X5_12 e2 dX5_begin_1 ?_
  refine lv_iload_n hx hb dX5_begin_4 rfl (lv_at hl 1 rfl) ?_
  refine lv_iload_n hx hb dX5_begin_5 rfl (lv_at hl 2 rfl) ?_
  replace hm := ob hm; obtain ⟨u3, e4, hm⟩ := hm
  replace hm := ob hm; obtain ⟨σ6, e5, hm⟩ := hm
  refine z_callv (z_runV (As := [.int v1, .int v2]) (rest := []) (ci := 3) rfl rfl C0 lv_X5_22 (b_X3_begin e5) hW hS e4 rfl hl.1 rfl (Nat.le_of_ble_eq_true rfl) dX5_begin_6 rfl rfl ⟨Nat.le_of_ble_eq_true rfl, Nat.le_of_ble_eq_true rfl⟩ ⟨Nat.le_refl _, Nat.le_refl _⟩) hS (fun H locs hW hS => ?_)
  refine lv_aload_n hx hb dX5_begin_9 rfl (lv_at hl 0 rfl) ?_
  replace hm := ob hm; obtain ⟨a7, e8, hm⟩ := hm
  refine r_getA C0 hW fl_X5_18 e8 dX5_begin_10 ?_
  refine lv_iconst (v := (-1)) hx hb dX5_begin_13 (by decide) ?_
  replace hm := ob hm; obtain ⟨σ10, e9, hm⟩ := hm
  refine z_callv (z_runS (As := [.ref a7, .int (-1)]) (rest := []) C0 ls_X5_26 (b_J7_fill_53178 e9) hW hS rfl hl.1 rfl (Nat.le_of_ble_eq_true rfl) dX5_begin_14 rfl rfl ⟨Nat.le_of_ble_eq_true rfl, Nat.le_of_ble_eq_true rfl⟩ ⟨Nat.le_refl _, Nat.le_refl _⟩) hS (fun H locs hW hS => ?_)
  refine lv_aload_n hx hb dX5_begin_17 rfl (lv_at hl 0 rfl) ?_
  refine lv_iconst (v := 0) hx hb dX5_begin_18 (by decide) ?_
  replace hm := ob hm; obtain ⟨σ11, e12, hm⟩ := hm
  refine r_putI C0 hW hS fl_X5_32 e12 dX5_begin_19 (fun H locs hW hS => ?_)
  refine lv_aload_n hx hb dX5_begin_22 rfl (lv_at hl 0 rfl) ?_
  refine lv_iconst (v := 0) hx hb dX5_begin_23 (by decide) ?_
  replace hm := ob hm; obtain ⟨σ13, e14, hm⟩ := hm
  refine r_putI C0 hW hS fl_X5_36 e14 dX5_begin_24 (fun H locs hW hS => ?_)
  cases hm
  exact r_vret C0 hr hlocks hW hS dX5_begin_27
set_option maxHeartbeats 4000000 in
set_option maxRecDepth 100000 in
theorem b_X4_makeTable {l : Launch} {D : va_G} {ca : Nat → ClassId} {A : Nat → Prop} {N : Nat} {σ : zS} {v0 : Nat} {v1 : Int32} {v2 : Int32} {r0 : Int32} {σ' : zS} (hm : m_X4_makeTable N σ v0 v1 v2 = some (r0, σ')) : Met l yX4_makeTable (.code yX4_makeTable cX4_makeTable 4 (some .int) :: wsL_law) ({ frames := 3, cells := 0, slots := 0, locals := 67 } : Room) (va_Pc [.ref v0, .int v1, .int v2] (zP D ca A σ)) (zQi r0 D ca A σ') 0 0 A := by
  refine zMk (by decide +kernel) (Nat.le_of_ble_eq_true rfl) ?_
  intro p e s m below meth c C0 hr hlocks hin hW ls hl
  have hx := C0.1
  have hb := C0.2.1
  have hS : va_S A s.heap s.heap [] := va_S.rf
  have hl : lv_has ls 4 [(0, .ref v0), (1, .int v1), (2, .int v2)] := hl
  unfold m_X4_makeTable at hm
  refine lv_aload_n hx hb dX4_makeTable_0 rfl (lv_at hl 0 rfl) ?_
  refine lv_aload_n hx hb dX4_makeTable_1 rfl (lv_at hl 0 rfl) ?_
  replace hm := ob hm; obtain ⟨x1, e2, hm⟩ := hm
  refine r_getI C0 hW fl_X4_25 e2 dX4_makeTable_2 ?_
  refine lv_iconst (v := 1) hx hb dX4_makeTable_5 (by decide) ?_
  refine lv_iadd hx hb dX4_makeTable_6 ?_
  refine lv_bipush (v := 6) hx hb dX4_makeTable_7 (by decide) ?_
  refine r_min C0 lb_X4_94 hl.1 (Nat.le_of_ble_eq_true rfl) (Nat.le_of_ble_eq_true rfl) ⟨Nat.le_refl _, Nat.le_refl _⟩ dX4_makeTable_9 ?_
  replace hm := ob hm; obtain ⟨σ3, e4, hm⟩ := hm
  refine r_putI C0 hW hS fl_X4_25 e4 dX4_makeTable_12 (fun H locs hW hS => ?_)
  refine lv_aload_n hx hb dX4_makeTable_15 rfl (lv_at hl 0 rfl) ?_
  refine lv_aload_n hx hb dX4_makeTable_16 rfl (lv_at hl 0 rfl) ?_
  replace hm := ob hm; obtain ⟨x5, e6, hm⟩ := hm
  refine r_getI C0 hW fl_X4_25 e6 dX4_makeTable_17 ?_
  refine lv_iconst (v := 1) hx hb dX4_makeTable_20 (by decide) ?_
  refine lv_isub hx hb dX4_makeTable_21 ?_
  replace hm := ob hm; obtain ⟨u7, e8, hm⟩ := hm
  replace hm := ob hm; obtain ⟨r10, e9, hm⟩ := hm
  refine z_callq (z_runV (As := [.int (x5 - 1)]) (rest := []) (ci := 4) rfl rfl C0 lv_X4_36 (b_X4_find e9) hW hS e8 rfl hl.1 rfl (Nat.le_of_ble_eq_true rfl) dX4_makeTable_22 rfl rfl ⟨Nat.le_of_ble_eq_true rfl, Nat.le_of_ble_eq_true rfl⟩ ⟨Nat.le_refl _, Nat.le_refl _⟩) hS (fun H locs hW hS => ?_)
  replace hm := oe hm; rcases hm with ⟨hn, hm⟩ | ⟨a11, hn, hm⟩
  · subst hn
    refine lv_astore_nN (lv' := [(3, .null), (0, .ref v0), (1, .int v1), (2, .int v2)]) hx hb dX4_makeTable_25 rfl hl (by decide) rfl (fun ls hl => ?_)
    refine lv_aload_nN hx hb dX4_makeTable_26 rfl (lv_at hl 0 rfl) ?_
    refine lv_ifnullN (tgt := 36) hx hb dX4_makeTable_27 (by decide) ?_
    refine lv_aload_n hx hb dX4_makeTable_36 rfl (lv_at hl 1 rfl) ?_
    replace hm := ob hm; obtain ⟨x12, e13, hm⟩ := hm
    refine r_getI C0 hW fl_X4_25 e13 dX4_makeTable_37 ?_
    refine lv_iconst (v := 1) hx hb dX4_makeTable_40 (by decide) ?_
    refine lv_isub hx hb dX4_makeTable_41 ?_
    obtain ⟨hq8, hq9⟩ := Prod.mk.inj (Option.some.inj hm); subst hq8; subst hq9
    exact r_iret C0 hr hlocks hW hS dX4_makeTable_42
  · subst hn
    refine lv_astore_n (lv' := [(3, .ref a11), (0, .ref v0), (1, .int v1), (2, .int v2)]) hx hb dX4_makeTable_25 rfl hl (by decide) rfl (fun ls hl => ?_)
    refine lv_aload_n hx hb dX4_makeTable_26 rfl (lv_at hl 0 rfl) ?_
    refine lv_ifnull hx hb dX4_makeTable_27 ?_
    refine lv_aload_n hx hb dX4_makeTable_30 rfl (lv_at hl 0 rfl) ?_
    refine lv_iload_n hx hb dX4_makeTable_31 rfl (lv_at hl 2 rfl) ?_
    refine lv_iload_n hx hb dX4_makeTable_32 rfl (lv_at hl 3 rfl) ?_
    replace hm := ob hm; obtain ⟨u14, e15, hm⟩ := hm
    replace hm := ob hm; obtain ⟨σ17, e16, hm⟩ := hm
    refine z_callv (z_runV (As := [.int v1, .int v2]) (rest := []) (ci := 5) rfl rfl C0 lv_X4_99 (b_X5_begin e16) hW hS e15 rfl hl.1 rfl (Nat.le_of_ble_eq_true rfl) dX4_makeTable_33 rfl rfl ⟨Nat.le_of_ble_eq_true rfl, Nat.le_of_ble_eq_true rfl⟩ ⟨Nat.le_refl _, Nat.le_refl _⟩) hS (fun H locs hW hS => ?_)
    refine lv_aload_n hx hb dX4_makeTable_36 rfl (lv_at hl 1 rfl) ?_
    replace hm := ob hm; obtain ⟨x18, e19, hm⟩ := hm
    refine r_getI C0 hW fl_X4_25 e19 dX4_makeTable_37 ?_
    refine lv_iconst (v := 1) hx hb dX4_makeTable_40 (by decide) ?_
    refine lv_isub hx hb dX4_makeTable_41 ?_
    obtain ⟨hq8, hq9⟩ := Prod.mk.inj (Option.some.inj hm); subst hq8; subst hq9
    exact r_iret C0 hr hlocks hW hS dX4_makeTable_42
set_option maxHeartbeats 4000000 in
set_option maxRecDepth 100000 in
theorem b_X8_isThing {l : Launch} {D : va_G} {ca : Nat → ClassId} {A : Nat → Prop} {N : Nat} {σ : zS} {v0 : Int32} {r0 : Int32} (hm : m_X8_isThing N σ v0 = some r0) : Met l yX8_isThing (.code yX8_isThing cX8_isThing 1 (some .boolean) :: wsL_law) ({ frames := 0, cells := 0, slots := 0, locals := 0 } : Room) (va_Pc [.int v0] (zP D ca A σ)) (zQi r0 D ca A σ) 0 0 A := by
  refine zMk (by decide +kernel) (Nat.le_of_ble_eq_true rfl) ?_
  intro p e s m below meth c C0 hr hlocks hin hW ls hl
  have hx := C0.1
  have hb := C0.2.1
  have hS : va_S A s.heap s.heap [] := va_S.rf
  have hl : lv_has ls 1 [(0, .int v0)] := hl
  unfold m_X8_isThing at hm
  refine lv_iload_n hx hb dX8_isThing_0 rfl (lv_at hl 0 rfl) ?_
  refine lv_if_lt (tgt := 15) hx hb dX8_isThing_1 (by decide) (fun h1 => ?_) (fun h1 => ?_)
  · rw [if_pos h1] at hm
    refine lv_iconst (v := 0) hx hb dX8_isThing_15 (by decide) ?_
    cases hm
    exact r_zret C0 hr rfl hlocks hW hS dX8_isThing_16
  · rw [if_neg h1] at hm
    refine lv_iload_n hx hb dX8_isThing_4 rfl (lv_at hl 0 rfl) ?_
    refine lv_sipush (v := 1000) hx hb dX8_isThing_5 (by decide) ?_
    refine lv_icmp_ge (tgt := 15) hx hb dX8_isThing_8 (by decide) (fun h2 => ?_) (fun h2 => ?_)
    · rw [if_pos h2] at hm
      refine lv_iconst (v := 0) hx hb dX8_isThing_15 (by decide) ?_
      cases hm
      exact r_zret C0 hr rfl hlocks hW hS dX8_isThing_16
    · rw [if_neg h2] at hm
      refine lv_iconst (v := 1) hx hb dX8_isThing_11 (by decide) ?_
      refine lv_goto (tgt := 16) hx hb dX8_isThing_12 (by decide) ?_
      cases hm
      exact r_zret C0 hr rfl hlocks hW hS dX8_isThing_16
set_option maxHeartbeats 4000000 in
set_option maxRecDepth 100000 in
theorem b_X5_know {l : Launch} {D : va_G} {ca : Nat → ClassId} {A : Nat → Prop} {N : Nat} {σ : zS} {v0 : Nat} {v1 : Int32} {v2 : Int32} {σ' : zS} (hm : m_X5_know N σ v0 v1 v2 = some σ') : Met l yX5_know (.code yX5_know cX5_know 3 none :: wsL_law) ({ frames := 1, cells := 0, slots := 0, locals := 26 } : Room) (va_Pc [.ref v0, .int v1, .int v2] (zP D ca A σ)) (zQv D ca A σ') 0 0 A := by
  refine zMk (by decide +kernel) (Nat.le_of_ble_eq_true rfl) ?_
  intro p e s m below meth c C0 hr hlocks hin hW ls hl
  have hx := C0.1
  have hb := C0.2.1
  have hS : va_S A s.heap s.heap [] := va_S.rf
  have hl : lv_has ls 3 [(0, .ref v0), (1, .int v1), (2, .int v2)] := hl
  unfold m_X5_know at hm
  refine lv_iload_n hx hb dX5_know_0 rfl (lv_at hl 1 rfl) ?_
  replace hm := ob hm; obtain ⟨x2, e1, hm⟩ := hm
  refine z_calli (z_runN (As := [.int v1]) (rest := []) C0 ln_X5_60 (b_X8_isThing e1) hW hS rfl hl.1 rfl (Nat.le_of_ble_eq_true rfl) dX5_know_1 rfl rfl ⟨Nat.le_of_ble_eq_true rfl, Nat.le_of_ble_eq_true rfl⟩ ⟨Nat.le_refl _, Nat.le_refl _⟩) hS (fun H locs hW hS => ?_)
  refine lv_if_ne (tgt := 8) hx hb dX5_know_4 (by decide) (fun h3 => ?_) (fun h3 => ?_)
  · rw [if_neg h3] at hm
    refine lv_aload_n hx hb dX5_know_8 rfl (lv_at hl 0 rfl) ?_
    replace hm := ob hm; obtain ⟨a4, e5, hm⟩ := hm
    refine r_getA C0 hW fl_X5_18 e5 dX5_know_9 ?_
    refine lv_iload_n hx hb dX5_know_12 rfl (lv_at hl 1 rfl) ?_
    replace hm := ob hm; obtain ⟨x6, e7, hm⟩ := hm
    refine r_aI C0 hW e7 dX5_know_13 ?_
    refine lv_iconst (v := (-1)) hx hb dX5_know_14 (by decide) ?_
    refine lv_icmp_ne (tgt := 38) hx hb dX5_know_15 (by decide) (fun h8 => ?_) (fun h8 => ?_)
    · rw [if_neg h8] at hm
      refine lv_aload_n hx hb dX5_know_38 rfl (lv_at hl 0 rfl) ?_
      replace hm := ob hm; obtain ⟨a9, e10, hm⟩ := hm
      refine r_getA C0 hW fl_X5_18 e10 dX5_know_39 ?_
      refine lv_iload_n hx hb dX5_know_42 rfl (lv_at hl 1 rfl) ?_
      refine lv_aload_n hx hb dX5_know_43 rfl (lv_at hl 0 rfl) ?_
      replace hm := ob hm; obtain ⟨a11, e12, hm⟩ := hm
      refine r_getA C0 hW fl_X5_18 e12 dX5_know_44 ?_
      refine lv_iload_n hx hb dX5_know_47 rfl (lv_at hl 1 rfl) ?_
      replace hm := ob hm; obtain ⟨x13, e14, hm⟩ := hm
      refine r_aI C0 hW e14 dX5_know_48 ?_
      refine lv_iload_n hx hb dX5_know_49 rfl (lv_at hl 2 rfl) ?_
      refine r_min C0 lb_X5_67 hl.1 (Nat.le_of_ble_eq_true rfl) (Nat.le_of_ble_eq_true rfl) ⟨Nat.le_refl _, Nat.le_refl _⟩ dX5_know_50 ?_
      replace hm := ob hm; obtain ⟨σ15, e16, hm⟩ := hm
      refine r_uI C0 hW hS e16 dX5_know_53 (fun H locs hW hS => ?_)
      cases hm
      exact r_vret C0 hr hlocks hW hS dX5_know_54
    · rw [if_pos h8] at hm
      refine lv_aload_n hx hb dX5_know_18 rfl (lv_at hl 0 rfl) ?_
      replace hm := ob hm; obtain ⟨a17, e18, hm⟩ := hm
      refine r_getA C0 hW fl_X5_18 e18 dX5_know_19 ?_
      refine lv_iload_n hx hb dX5_know_22 rfl (lv_at hl 1 rfl) ?_
      refine lv_iload_n hx hb dX5_know_23 rfl (lv_at hl 2 rfl) ?_
      replace hm := ob hm; obtain ⟨σ19, e20, hm⟩ := hm
      refine r_uI C0 hW hS e20 dX5_know_24 (fun H locs hW hS => ?_)
      refine lv_aload_n hx hb dX5_know_25 rfl (lv_at hl 0 rfl) ?_
      refine lv_dup hx hb dX5_know_26 rfl ?_
      replace hm := ob hm; obtain ⟨x21, e22, hm⟩ := hm
      refine r_getI C0 hW fl_X5_32 e22 dX5_know_27 ?_
      refine lv_iconst (v := 1) hx hb dX5_know_30 (by decide) ?_
      refine lv_iadd hx hb dX5_know_31 ?_
      replace hm := ob hm; obtain ⟨σ23, e24, hm⟩ := hm
      refine r_putI C0 hW hS fl_X5_32 e24 dX5_know_32 (fun H locs hW hS => ?_)
      refine lv_goto (tgt := 54) hx hb dX5_know_35 (by decide) ?_
      cases hm
      exact r_vret C0 hr hlocks hW hS dX5_know_54
  · rw [if_pos h3] at hm
    cases hm
    exact r_vret C0 hr hlocks hW hS dX5_know_7
set_option maxHeartbeats 4000000 in
set_option maxRecDepth 100000 in
theorem w_X4_putRow_L20 {p : Program} {l : Launch} {e : Env} {s : State} {m : MethodId} {args : Array Value} {below : List Frame} {meth : Method} {c : Code} {D : va_G} {ca : Nat → ClassId} {A : Nat → Prop} {Q : State → Prop} (N : Nat) : ∀ (n : Nat) {σ : zS} {v0 : Nat} {v3 : Int32} {v4 : Int32} {v5 : Nat} {v6 : Int32} {v7 : Int32} {σ' : zS} {H : Heap} {locs : List Loc} {ls : Array Slot}, m_X4_putRow_L20 N n σ v0 v3 v4 v5 v6 v7 = some σ' → zC p s m args c RX4 cX4_putRow 8 D ca A → zW D ca A σ H → va_S A s.heap H locs → lv_has ls 8 [(0, .ref v0), (3, .int v3), (4, .int v4), (5, .ref v5), (6, .int v6), (7, .int v7)] → (∀ (H : Heap) (locs : List Loc) (ls : Array Slot), zW D ca A σ' H → va_S A s.heap H locs → lv_has ls 8 [(5, .ref v5)] → W p l e ({ frames := 3, cells := 0, slots := 0, locals := 71 } : Room) s m args below meth c H locs 0 0 Q (F0 m 74 ls [])) → W p l e ({ frames := 3, cells := 0, slots := 0, locals := 71 } : Room) s m args below meth c H locs 0 0 Q (F0 m 20 ls []) := by
  intro n
  induction n with
  | zero =>
    intro σ v0 v3 v4 v5 v6 v7 σ' H locs ls hm C0 hW hS hl kk
    rw [m_X4_putRow_L20] at hm
    cases hm
  | succ n ih =>
    intro σ v0 v3 v4 v5 v6 v7 σ' H locs ls hm C0 hW hS hl kk
    rw [m_X4_putRow_L20] at hm
    have hx := C0.1
    have hb := C0.2.1
    refine lv_iload hx hb dX4_putRow_20 (lv_at hl 5 rfl) ?_
    refine lv_iload hx hb dX4_putRow_22 (lv_at hl 2 rfl) ?_
    refine lv_icmp_ge (tgt := 74) hx hb dX4_putRow_24 (by decide) (fun h6 => ?_) (fun h6 => ?_)
    · rw [if_pos h6] at hm
      cases hm
      exact kk _ _ _ hW hS (lv_sub hl [3] rfl)
    · rw [if_neg h6] at hm
      refine lv_aload hx hb dX4_putRow_27 (lv_at hl 3 rfl) ?_
      replace hm := ob hm; obtain ⟨a7, e8, hm⟩ := hm
      refine r_getA C0 hW fl_X4_72 e8 dX4_putRow_29 ?_
      refine lv_iload hx hb dX4_putRow_32 (lv_at hl 4 rfl) ?_
      replace hm := ob hm; obtain ⟨u9, e10, hm⟩ := hm
      replace hm := ob hm; obtain ⟨σ12, e11, hm⟩ := hm
      refine z_callv (z_runV (As := [.int v6]) (rest := []) (ci := 3) rfl rfl C0 lv_X4_103 (b_X3_take e11) hW hS e10 rfl hl.1 rfl (Nat.le_of_ble_eq_true rfl) dX4_putRow_34 rfl rfl ⟨Nat.le_of_ble_eq_true rfl, Nat.le_of_ble_eq_true rfl⟩ ⟨Nat.le_refl _, Nat.le_refl _⟩) hS (fun H locs hW hS => ?_)
      refine lv_aload hx hb dX4_putRow_37 (lv_at hl 3 rfl) ?_
      refine lv_iload hx hb dX4_putRow_39 (lv_at hl 4 rfl) ?_
      refine lv_aload_n hx hb dX4_putRow_41 rfl (lv_at hl 0 rfl) ?_
      replace hm := ob hm; obtain ⟨x13, e14, hm⟩ := hm
      refine r_getI C0 hW fl_X4_29 e14 dX4_putRow_42 ?_
      replace hm := ob hm; obtain ⟨u15, e16, hm⟩ := hm
      replace hm := ob hm; obtain ⟨σ18, e17, hm⟩ := hm
      refine z_callv (z_runV (As := [.int v6, .int x13]) (rest := []) (ci := 5) rfl rfl C0 lv_X4_107 (b_X5_know e17) hW hS e16 rfl hl.1 rfl (Nat.le_of_ble_eq_true rfl) dX4_putRow_45 rfl rfl ⟨Nat.le_of_ble_eq_true rfl, Nat.le_of_ble_eq_true rfl⟩ ⟨Nat.le_refl _, Nat.le_refl _⟩) hS (fun H locs hW hS => ?_)
      refine lv_aload_n hx hb dX4_putRow_48 rfl (lv_at hl 0 rfl) ?_
      refine lv_dup hx hb dX4_putRow_49 rfl ?_
      replace hm := ob hm; obtain ⟨x19, e20, hm⟩ := hm
      refine r_getI C0 hW fl_X4_29 e20 dX4_putRow_50 ?_
      refine lv_iconst (v := 1) hx hb dX4_putRow_53 (by decide) ?_
      refine lv_iadd hx hb dX4_putRow_54 ?_
      replace hm := ob hm; obtain ⟨σ21, e22, hm⟩ := hm
      refine r_putI C0 hW hS fl_X4_29 e22 dX4_putRow_55 (fun H locs hW hS => ?_)
      refine lv_iload hx hb dX4_putRow_58 (lv_at hl 4 rfl) ?_
      refine lv_iload_n hx hb dX4_putRow_60 rfl (lv_at hl 1 rfl) ?_
      refine lv_iadd hx hb dX4_putRow_61 ?_
      refine lv_sipush (v := 1000) hx hb dX4_putRow_62 (by decide) ?_
      refine r_irem hx hb dX4_putRow_65 (by decide) ?_
      replace hm := ob hm; obtain ⟨x23, e24, hm⟩ := hm
      refine z_top e24 ?_
      refine lv_istore (lv' := [(6, .int x23), (0, .ref v0), (3, .int v3), (4, .int v4), (5, .ref v5), (7, .int v7)]) hx hb dX4_putRow_66 hl (by decide) rfl (fun ls hl => ?_)
      replace hm := ob hm; obtain ⟨x25, e26, hm⟩ := hm
      refine lv_iinc (v := x25) (lv' := [(7, .int x25), (6, .int x23), (0, .ref v0), (3, .int v3), (4, .int v4), (5, .ref v5)]) hx hb dX4_putRow_68 hl (k := 5) rfl (Option.some.inj e26) (by decide) rfl (fun ls hl => ?_)
      refine lv_goto (tgt := 20) hx hb dX4_putRow_71 (by decide) ?_
      exact ih hm C0 hW hS (lv_sub hl [2, 3, 4, 5, 1, 0] rfl) kk
set_option maxHeartbeats 4000000 in
set_option maxRecDepth 100000 in
theorem b_X4_putRow {l : Launch} {D : va_G} {ca : Nat → ClassId} {A : Nat → Prop} {N : Nat} {σ : zS} {v0 : Nat} {v1 : Int32} {v2 : Int32} {v3 : Int32} {v4 : Int32} {r0 : Int32} {σ' : zS} (hm : m_X4_putRow N σ v0 v1 v2 v3 v4 = some (r0, σ')) : Met l yX4_putRow (.code yX4_putRow cX4_putRow 8 (some .int) :: wsL_law) ({ frames := 3, cells := 0, slots := 0, locals := 71 } : Room) (va_Pc [.ref v0, .int v1, .int v2, .int v3, .int v4] (zP D ca A σ)) (zQi r0 D ca A σ') 0 0 A := by
  refine zMk (by decide +kernel) (Nat.le_of_ble_eq_true rfl) ?_
  intro p e s m below meth c C0 hr hlocks hin hW ls hl
  have hx := C0.1
  have hb := C0.2.1
  have hS : va_S A s.heap s.heap [] := va_S.rf
  have hl : lv_has ls 8 [(0, .ref v0), (1, .int v1), (2, .int v2), (3, .int v3), (4, .int v4)] := hl
  unfold m_X4_putRow at hm
  refine lv_aload_n hx hb dX4_putRow_0 rfl (lv_at hl 0 rfl) ?_
  refine lv_iload_n hx hb dX4_putRow_1 rfl (lv_at hl 1 rfl) ?_
  replace hm := ob hm; obtain ⟨u1, e2, hm⟩ := hm
  replace hm := ob hm; obtain ⟨r4, e3, hm⟩ := hm
  refine z_callq (z_runV (As := [.int v1]) (rest := []) (ci := 4) rfl rfl C0 lv_X4_36 (b_X4_find e3) hW hS e2 rfl hl.1 rfl (Nat.le_of_ble_eq_true rfl) dX4_putRow_2 rfl rfl ⟨Nat.le_of_ble_eq_true rfl, Nat.le_of_ble_eq_true rfl⟩ ⟨Nat.le_refl _, Nat.le_refl _⟩) hS (fun H locs hW hS => ?_)
  replace hm := oe hm; rcases hm with ⟨hn, hm⟩ | ⟨a5, hn, hm⟩
  · subst hn
    refine lv_astoreN (lv' := [(5, .null), (0, .ref v0), (1, .int v1), (2, .int v2), (3, .int v3), (4, .int v4)]) hx hb dX4_putRow_5 hl (by decide) rfl (fun ls hl => ?_)
    refine lv_aloadN hx hb dX4_putRow_7 (lv_at hl 0 rfl) ?_
    refine lv_ifnonnullN hx hb dX4_putRow_9 ?_
    refine lv_iconst (v := (-1)) hx hb dX4_putRow_12 (by decide) ?_
    obtain ⟨hq8, hq9⟩ := Prod.mk.inj (Option.some.inj hm); subst hq8; subst hq9
    exact r_iret C0 hr hlocks hW hS dX4_putRow_13
  · subst hn
    refine lv_astore (lv' := [(5, .ref a5), (0, .ref v0), (1, .int v1), (2, .int v2), (3, .int v3), (4, .int v4)]) hx hb dX4_putRow_5 hl (by decide) rfl (fun ls hl => ?_)
    refine lv_aload hx hb dX4_putRow_7 (lv_at hl 0 rfl) ?_
    refine lv_ifnonnull (tgt := 14) hx hb dX4_putRow_9 (by decide) ?_
    refine lv_iload_n hx hb dX4_putRow_14 rfl (lv_at hl 3 rfl) ?_
    refine lv_istore (lv' := [(6, .int v2), (5, .ref a5), (0, .ref v0), (1, .int v1), (2, .int v2), (3, .int v3), (4, .int v4)]) hx hb dX4_putRow_15 hl (by decide) rfl (fun ls hl => ?_)
    refine lv_iconst (v := 0) hx hb dX4_putRow_17 (by decide) ?_
    refine lv_istore (lv' := [(7, .int 0), (6, .int v2), (5, .ref a5), (0, .ref v0), (1, .int v1), (2, .int v2), (3, .int v3), (4, .int v4)]) hx hb dX4_putRow_18 hl (by decide) rfl (fun ls hl => ?_)
    replace hm := ob hm; obtain ⟨σ27, e28, hm⟩ := hm
    refine w_X4_putRow_L20 N N e28 C0 hW hS (lv_sub hl [3, 6, 7, 2, 1, 0] rfl) (fun H locs ls hW hS hl => ?_)
    refine lv_aload hx hb dX4_putRow_74 (lv_at hl 0 rfl) ?_
    replace hm := ob hm; obtain ⟨a29, e30, hm⟩ := hm
    refine r_getA C0 hW fl_X4_72 e30 dX4_putRow_76 ?_
    replace hm := ob hm; obtain ⟨u31, e32, hm⟩ := hm
    replace hm := ob hm; obtain ⟨x34, e33, hm⟩ := hm
    refine z_calli (z_runV (As := []) (rest := []) (ci := 3) rfl rfl C0 lv_X4_110 (b_X3_told e33) hW hS e32 rfl hl.1 rfl (Nat.le_of_ble_eq_true rfl) dX4_putRow_79 rfl rfl ⟨Nat.le_of_ble_eq_true rfl, Nat.le_of_ble_eq_true rfl⟩ ⟨Nat.le_refl _, Nat.le_refl _⟩) hS (fun H locs hW hS => ?_)
    obtain ⟨hq8, hq9⟩ := Prod.mk.inj (Option.some.inj hm); subst hq8; subst hq9
    exact r_iret C0 hr hlocks hW hS dX4_putRow_82
set_option maxHeartbeats 4000000 in
set_option maxRecDepth 100000 in
theorem w_X5_knowAllOf_L2 {p : Program} {l : Launch} {e : Env} {s : State} {m : MethodId} {args : Array Value} {below : List Frame} {meth : Method} {c : Code} {D : va_G} {ca : Nat → ClassId} {A : Nat → Prop} {Q : State → Prop} (N : Nat) : ∀ (n : Nat) {σ : zS} {v0 : Nat} {v1 : Nat} {v2 : Int32} {σ' : zS} {H : Heap} {locs : List Loc} {ls : Array Slot}, m_X5_knowAllOf_L2 N n σ v0 v1 v2 = some σ' → zC p s m args c RX5 cX5_knowAllOf 3 D ca A → zW D ca A σ H → va_S A s.heap H locs → lv_has ls 3 [(0, .ref v0), (1, .ref v1), (2, .int v2)] → (∀ (H : Heap) (locs : List Loc) (ls : Array Slot), zW D ca A σ' H → va_S A s.heap H locs → lv_has ls 3 [] → W p l e ({ frames := 2, cells := 0, slots := 0, locals := 48 } : Room) s m args below meth c H locs 0 0 Q (F0 m 36 ls [])) → W p l e ({ frames := 2, cells := 0, slots := 0, locals := 48 } : Room) s m args below meth c H locs 0 0 Q (F0 m 2 ls []) := by
  intro n
  induction n with
  | zero =>
    intro σ v0 v1 v2 σ' H locs ls hm C0 hW hS hl kk
    rw [m_X5_knowAllOf_L2] at hm
    cases hm
  | succ n ih =>
    intro σ v0 v1 v2 σ' H locs ls hm C0 hW hS hl kk
    rw [m_X5_knowAllOf_L2] at hm
    have hx := C0.1
    have hb := C0.2.1
    refine lv_iload_n hx hb dX5_knowAllOf_2 rfl (lv_at hl 2 rfl) ?_
    refine lv_sipush (v := 1000) hx hb dX5_knowAllOf_3 (by decide) ?_
    refine lv_icmp_ge (tgt := 36) hx hb dX5_knowAllOf_6 (by decide) (fun h1 => ?_) (fun h1 => ?_)
    · rw [if_pos h1] at hm
      cases hm
      exact kk _ _ _ hW hS (lv_sub hl [] rfl)
    · rw [if_neg h1] at hm
      refine lv_aload_n hx hb dX5_knowAllOf_9 rfl (lv_at hl 1 rfl) ?_
      replace hm := ob hm; obtain ⟨a2, e3, hm⟩ := hm
      refine r_getA C0 hW fl_X5_18 e3 dX5_knowAllOf_10 ?_
      refine lv_iload_n hx hb dX5_knowAllOf_13 rfl (lv_at hl 2 rfl) ?_
      replace hm := ob hm; obtain ⟨x4, e5, hm⟩ := hm
      refine r_aI C0 hW e5 dX5_knowAllOf_14 ?_
      refine lv_iconst (v := (-1)) hx hb dX5_knowAllOf_15 (by decide) ?_
      replace hm := ob hm; obtain ⟨σ16, e19, hm⟩ := hm
      have J30_6 : ∀ (H : Heap) (locs : List Loc) (ls : Array Slot), zW D ca A σ16 H → va_S A s.heap H locs → lv_has ls 3 [(0, .ref v0), (1, .ref v1), (2, .int v2)] → W p l e ({ frames := 2, cells := 0, slots := 0, locals := 48 } : Room) s m args below meth c H locs 0 0 Q (F0 m 30 ls []) := by
        intro H locs ls hW hS hl
        replace hm := ob hm; obtain ⟨x17, e18, hm⟩ := hm
        refine lv_iinc (v := x17) (lv' := [(2, .int x17), (0, .ref v0), (1, .ref v1)]) hx hb dX5_knowAllOf_30 hl (k := 2) rfl (Option.some.inj e18) (by decide) rfl (fun ls hl => ?_)
        refine lv_goto (tgt := 2) hx hb dX5_knowAllOf_33 (by decide) ?_
        exact ih hm C0 hW hS (lv_sub hl [1, 2, 0] rfl) kk
      clear hm
      have hm := e19
      clear e19
      refine lv_icmp_eq (tgt := 30) hx hb dX5_knowAllOf_16 (by decide) (fun h6 => ?_) (fun h6 => ?_)
      · rw [if_pos h6] at hm
        have hq1 := Option.some.inj hm; subst hq1
        exact J30_6 _ _ _ hW hS (lv_sub hl [0, 1, 2] rfl)
      · rw [if_neg h6] at hm
        refine lv_aload_n hx hb dX5_knowAllOf_19 rfl (lv_at hl 0 rfl) ?_
        refine lv_iload_n hx hb dX5_knowAllOf_20 rfl (lv_at hl 2 rfl) ?_
        refine lv_aload_n hx hb dX5_knowAllOf_21 rfl (lv_at hl 1 rfl) ?_
        replace hm := ob hm; obtain ⟨a8, e9, hm⟩ := hm
        refine r_getA C0 hW fl_X5_18 e9 dX5_knowAllOf_22 ?_
        refine lv_iload_n hx hb dX5_knowAllOf_25 rfl (lv_at hl 2 rfl) ?_
        replace hm := ob hm; obtain ⟨x10, e11, hm⟩ := hm
        refine r_aI C0 hW e11 dX5_knowAllOf_26 ?_
        replace hm := ob hm; obtain ⟨u12, e13, hm⟩ := hm
        replace hm := ob hm; obtain ⟨σ15, e14, hm⟩ := hm
        refine z_callv (z_runV (As := [.int v2, .int x10]) (rest := []) (ci := 5) rfl rfl C0 lv_X5_64 (b_X5_know e14) hW hS e13 rfl hl.1 rfl (Nat.le_of_ble_eq_true rfl) dX5_knowAllOf_27 rfl rfl ⟨Nat.le_of_ble_eq_true rfl, Nat.le_of_ble_eq_true rfl⟩ ⟨Nat.le_refl _, Nat.le_refl _⟩) hS (fun H locs hW hS => ?_)
        have hq1 := Option.some.inj hm; subst hq1
        exact J30_6 _ _ _ hW hS (lv_sub hl [0, 1, 2] rfl)
set_option maxHeartbeats 4000000 in
set_option maxRecDepth 100000 in
theorem b_X5_knowAllOf {l : Launch} {D : va_G} {ca : Nat → ClassId} {A : Nat → Prop} {N : Nat} {σ : zS} {v0 : Nat} {v1 : Nat} {σ' : zS} (hm : m_X5_knowAllOf N σ v0 v1 = some σ') : Met l yX5_knowAllOf (.code yX5_knowAllOf cX5_knowAllOf 3 none :: wsL_law) ({ frames := 2, cells := 0, slots := 0, locals := 48 } : Room) (va_Pc [.ref v0, .ref v1] (zP D ca A σ)) (zQv D ca A σ') 0 0 A := by
  refine zMk (by decide +kernel) (Nat.le_of_ble_eq_true rfl) ?_
  intro p e s m below meth c C0 hr hlocks hin hW ls hl
  have hx := C0.1
  have hb := C0.2.1
  have hS : va_S A s.heap s.heap [] := va_S.rf
  have hl : lv_has ls 3 [(0, .ref v0), (1, .ref v1)] := hl
  unfold m_X5_knowAllOf at hm
  refine lv_iconst (v := 0) hx hb dX5_knowAllOf_0 (by decide) ?_
  refine lv_istore_n (lv' := [(2, .int 0), (0, .ref v0), (1, .ref v1)]) hx hb dX5_knowAllOf_1 rfl hl (by decide) rfl (fun ls hl => ?_)
  replace hm := ob hm; obtain ⟨σ20, e21, hm⟩ := hm
  refine w_X5_knowAllOf_L2 N N e21 C0 hW hS (lv_sub hl [1, 2, 0] rfl) (fun H locs ls hW hS hl => ?_)
  cases hm
  exact r_vret C0 hr hlocks hW hS dX5_knowAllOf_36
