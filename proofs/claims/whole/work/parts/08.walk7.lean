set_option maxHeartbeats 4000000 in
set_option maxRecDepth 100000 in
theorem b_X9_merge {l : Launch} {D : va_G} {ca : Nat → ClassId} {A : Nat → Prop} {N : Nat} {σ : zS} {v0 : Nat} {v1 : Int32} {v2 : Int32} {r0 : Int32} {σ' : zS} (hm : m_X9_merge N σ v0 v1 v2 = some (r0, σ')) : Met l yX9_merge (.code yX9_merge cX9_merge 3 (some .int) :: wsL_law) ({ frames := 6, cells := 0, slots := 0, locals := 138 } : Room) (va_Pc [.ref v0, .int v1, .int v2] (zP D ca A σ)) (zQi r0 D ca A σ') 0 0 A := by
  refine zMk (by decide +kernel) (Nat.le_of_ble_eq_true rfl) ?_
  intro p e s m below meth c C0 hr hlocks hin hW ls hl
  have hx := C0.1
  have hb := C0.2.1
  have hS : va_S A s.heap s.heap [] := va_S.rf
  have hl : lv_has ls 3 [(0, .ref v0), (1, .int v1), (2, .int v2)] := hl
  unfold m_X9_merge at hm
  refine lv_aload_n hx hb dX9_merge_0 rfl (lv_at hl 0 rfl) ?_
  replace hm := ob hm; obtain ⟨a1, e2, hm⟩ := hm
  refine r_getA C0 hW fl_X9_7 e2 dX9_merge_1 ?_
  refine lv_aload_n hx hb dX9_merge_4 rfl (lv_at hl 0 rfl) ?_
  replace hm := ob hm; obtain ⟨a3, e4, hm⟩ := hm
  refine r_getA C0 hW fl_X9_13 e4 dX9_merge_5 ?_
  replace hm := ob hm; obtain ⟨σ6, e5, hm⟩ := hm
  refine z_callv (z_runS (As := [.ref a1, .ref a3]) (rest := []) C0 ls_X9_34 (b_X9_copy e5) hW hS rfl hl.1 rfl (Nat.le_of_ble_eq_true rfl) dX9_merge_8 rfl rfl ⟨Nat.le_of_ble_eq_true rfl, Nat.le_of_ble_eq_true rfl⟩ ⟨Nat.le_refl _, Nat.le_refl _⟩) hS (fun H locs hW hS => ?_)
  refine lv_aload_n hx hb dX9_merge_11 rfl (lv_at hl 0 rfl) ?_
  refine lv_aload_n hx hb dX9_merge_12 rfl (lv_at hl 0 rfl) ?_
  refine lv_iload_n hx hb dX9_merge_13 rfl (lv_at hl 1 rfl) ?_
  refine lv_iload_n hx hb dX9_merge_14 rfl (lv_at hl 2 rfl) ?_
  replace hm := ob hm; obtain ⟨u7, e8, hm⟩ := hm
  replace hm := o2 hm; obtain ⟨x11, σ10, e9, hm⟩ := hm
  refine z_calli (z_runV (As := [.int v1, .int v2]) (rest := [.ref v0]) (ci := 9) rfl rfl C0 lv_X9_151 (b_X9_mergesInto e9) hW hS e8 rfl hl.1 rfl (Nat.le_of_ble_eq_true rfl) dX9_merge_15 rfl rfl ⟨Nat.le_of_ble_eq_true rfl, Nat.le_of_ble_eq_true rfl⟩ ⟨Nat.le_refl _, Nat.le_refl _⟩) hS (fun H locs hW hS => ?_)
  replace hm := ob hm; obtain ⟨u12, e13, hm⟩ := hm
  replace hm := o2 hm; obtain ⟨x16, σ15, e14, hm⟩ := hm
  refine z_calli (z_runV (As := [.int x11]) (rest := []) (ci := 9) rfl rfl C0 lv_X9_144 (b_X9_ends e14) hW hS e13 rfl hl.1 rfl (Nat.le_of_ble_eq_true rfl) dX9_merge_18 rfl rfl ⟨Nat.le_of_ble_eq_true rfl, Nat.le_of_ble_eq_true rfl⟩ ⟨Nat.le_refl _, Nat.le_refl _⟩) hS (fun H locs hW hS => ?_)
  obtain ⟨hq8, hq9⟩ := Prod.mk.inj (Option.some.inj hm); subst hq8; subst hq9
  exact r_iret C0 hr hlocks hW hS dX9_merge_21
set_option maxHeartbeats 4000000 in
set_option maxRecDepth 100000 in
theorem b_X9_play {l : Launch} {D : va_G} {ca : Nat → ClassId} {A : Nat → Prop} {N : Nat} {σ : zS} {v0 : Nat} {r0 : Int32} {σ' : zS} (hm : m_X9_play N σ v0 = some (r0, σ')) : Met l yX9_play (.code yX9_play cX9_play 2 (some .int) :: wsL_law) ({ frames := 8, cells := 0, slots := 0, locals := 187 } : Room) (va_Pc [.ref v0] (zP D ca A σ)) (zQi r0 D ca A σ') 0 0 A := by
  refine zMk (by decide +kernel) (Nat.le_of_ble_eq_true rfl) ?_
  intro p e s m below meth c C0 hr hlocks hin hW ls hl
  have hx := C0.1
  have hb := C0.2.1
  have hS : va_S A s.heap s.heap [] := va_S.rf
  have hl : lv_has ls 2 [(0, .ref v0)] := hl
  unfold m_X9_play at hm
  refine lv_aload_n hx hb dX9_play_0 rfl (lv_at hl 0 rfl) ?_
  replace hm := ob hm; obtain ⟨a1, e2, hm⟩ := hm
  refine r_getA C0 hW fl_X9_7 e2 dX9_play_1 ?_
  refine lv_aload_n hx hb dX9_play_4 rfl (lv_at hl 0 rfl) ?_
  replace hm := ob hm; obtain ⟨a3, e4, hm⟩ := hm
  refine r_getA C0 hW fl_X9_13 e4 dX9_play_5 ?_
  replace hm := ob hm; obtain ⟨σ6, e5, hm⟩ := hm
  refine z_callv (z_runS (As := [.ref a1, .ref a3]) (rest := []) C0 ls_X9_34 (b_X9_copy e5) hW hS rfl hl.1 rfl (Nat.le_of_ble_eq_true rfl) dX9_play_8 rfl rfl ⟨Nat.le_of_ble_eq_true rfl, Nat.le_of_ble_eq_true rfl⟩ ⟨Nat.le_refl _, Nat.le_refl _⟩) hS (fun H locs hW hS => ?_)
  refine lv_aload_n hx hb dX9_play_11 rfl (lv_at hl 0 rfl) ?_
  replace hm := ob hm; obtain ⟨u7, e8, hm⟩ := hm
  replace hm := o2 hm; obtain ⟨x11, σ10, e9, hm⟩ := hm
  refine z_calli (z_runV (As := []) (rest := []) (ci := 9) rfl rfl C0 lv_X9_221 (b_X9_does e9) hW hS e8 rfl hl.1 rfl (Nat.le_of_ble_eq_true rfl) dX9_play_12 rfl rfl ⟨Nat.le_of_ble_eq_true rfl, Nat.le_of_ble_eq_true rfl⟩ ⟨Nat.le_refl _, Nat.le_refl _⟩) hS (fun H locs hW hS => ?_)
  refine lv_istore_n (lv' := [(1, .int x11), (0, .ref v0)]) hx hb dX9_play_15 rfl hl (by decide) rfl (fun ls hl => ?_)
  refine lv_aload_n hx hb dX9_play_16 rfl (lv_at hl 1 rfl) ?_
  refine lv_iload_n hx hb dX9_play_17 rfl (lv_at hl 0 rfl) ?_
  replace hm := ob hm; obtain ⟨y14, e20, hm⟩ := hm
  have J29_12 : ∀ (H : Heap) (locs : List Loc) (ls : Array Slot), zW D ca A σ10 H → va_S A s.heap H locs → lv_has ls 2 [] → W p l e ({ frames := 8, cells := 0, slots := 0, locals := 187 } : Room) s m (List.toArray [.ref v0]) below meth c H locs 0 0 (MQ below (zQi r0 D ca A σ') (List.toArray [.ref v0]) s 0 0 A) (F0 m 29 ls [.int y14, .ref v0]) := by
    intro H locs ls hW hS hl
    replace hm := ob hm; obtain ⟨u15, e16, hm⟩ := hm
    replace hm := o2 hm; obtain ⟨x19, σ18, e17, hm⟩ := hm
    refine z_calli (z_runV (As := [.int y14]) (rest := []) (ci := 9) rfl rfl C0 lv_X9_144 (b_X9_ends e17) hW hS e16 rfl hl.1 rfl (Nat.le_of_ble_eq_true rfl) dX9_play_29 rfl rfl ⟨Nat.le_of_ble_eq_true rfl, Nat.le_of_ble_eq_true rfl⟩ ⟨Nat.le_refl _, Nat.le_refl _⟩) hS (fun H locs hW hS => ?_)
    obtain ⟨hq8, hq9⟩ := Prod.mk.inj (Option.some.inj hm); subst hq8; subst hq9
    exact r_iret C0 hr hlocks hW hS dX9_play_32
  clear hm
  have hm := e20
  clear e20
  refine lv_if_ge (tgt := 27) hx hb dX9_play_18 (by decide) (fun h12 => ?_) (fun h12 => ?_)
  · rw [if_pos h12] at hm
    refine lv_bipush (v := (-2)) hx hb dX9_play_27 (by decide) ?_
    have hq1 := Option.some.inj hm; subst hq1
    exact J29_12 _ _ _ hW hS (lv_sub hl [] rfl)
  · rw [if_neg h12] at hm
    refine lv_iconst (v := (-1)) hx hb dX9_play_21 (by decide) ?_
    refine lv_iload_n hx hb dX9_play_22 rfl (lv_at hl 0 rfl) ?_
    refine lv_isub hx hb dX9_play_23 ?_
    refine lv_goto (tgt := 29) hx hb dX9_play_24 (by decide) ?_
    have hq1 := Option.some.inj hm; subst hq1
    exact J29_12 _ _ _ hW hS (lv_sub hl [] rfl)
set_option maxHeartbeats 4000000 in
set_option maxRecDepth 100000 in
theorem w_X9_raises_L12 {p : Program} {l : Launch} {e : Env} {s : State} {m : MethodId} {args : Array Value} {below : List Frame} {meth : Method} {c : Code} {D : va_G} {ca : Nat → ClassId} {A : Nat → Prop} {Q : State → Prop} (N : Nat) : ∀ (n : Nat) {σ : zS} {v0 : Nat} {v1 : Int32} {v2 : Int32} {res : (Int32 × zS) ⊕ (zS)} {H : Heap} {locs : List Loc} {ls : Array Slot}, m_X9_raises_L12 N n σ v0 v1 v2 = some res → zC p s m args c RX9 cX9_raises 3 D ca A → zW D ca A σ H → va_S A s.heap H locs → lv_has ls 3 [(0, .ref v0), (1, .int v1), (2, .int v2)] → (∀ (r : Int32 × zS), res = .inl r → ∀ (pc : Nat) (H : Heap) (locs : List Loc) (ls : Array Slot), decode cX9_raises pc = .ok (.ireturn, 1) → zW D ca A r.2 H → va_S A s.heap H locs → W p l e ({ frames := 3, cells := 0, slots := 0, locals := 72 } : Room) s m args below meth c H locs 0 0 Q (F0 m pc ls [.int r.1])) → (∀  (σ' : zS), res = .inr σ' → ∀ (H : Heap) (locs : List Loc) (ls : Array Slot), zW D ca A σ' H → va_S A s.heap H locs → lv_has ls 3 [] → W p l e ({ frames := 3, cells := 0, slots := 0, locals := 72 } : Room) s m args below meth c H locs 0 0 Q (F0 m 36 ls [])) → W p l e ({ frames := 3, cells := 0, slots := 0, locals := 72 } : Room) s m args below meth c H locs 0 0 Q (F0 m 12 ls []) := by
  intro n
  induction n with
  | zero =>
    intro σ v0 v1 v2 res H locs ls hm C0 hW hS hl kr kk
    rw [m_X9_raises_L12] at hm
    cases hm
  | succ n ih =>
    intro σ v0 v1 v2 res H locs ls hm C0 hW hS hl kr kk
    rw [m_X9_raises_L12] at hm
    have hx := C0.1
    have hb := C0.2.1
    refine lv_iload_n hx hb dX9_raises_12 rfl (lv_at hl 2 rfl) ?_
    refine lv_sipush (v := 1000) hx hb dX9_raises_13 (by decide) ?_
    refine lv_icmp_ge (tgt := 36) hx hb dX9_raises_16 (by decide) (fun h6 => ?_) (fun h6 => ?_)
    · rw [if_pos h6] at hm
      cases hm
      exact kk _ rfl _ _ _ hW hS (lv_sub hl [] rfl)
    · rw [if_neg h6] at hm
      refine lv_aload_n hx hb dX9_raises_19 rfl (lv_at hl 0 rfl) ?_
      refine lv_iload_n hx hb dX9_raises_20 rfl (lv_at hl 1 rfl) ?_
      refine lv_iload_n hx hb dX9_raises_21 rfl (lv_at hl 2 rfl) ?_
      replace hm := ob hm; obtain ⟨u7, e8, hm⟩ := hm
      replace hm := o2 hm; obtain ⟨x11, σ10, e9, hm⟩ := hm
      refine z_calli (z_runV (As := [.int v1, .int v2]) (rest := []) (ci := 9) rfl rfl C0 lv_X9_163 (b_X9_couldHave e9) hW hS e8 rfl hl.1 rfl (Nat.le_of_ble_eq_true rfl) dX9_raises_22 rfl rfl ⟨Nat.le_of_ble_eq_true rfl, Nat.le_of_ble_eq_true rfl⟩ ⟨Nat.le_refl _, Nat.le_refl _⟩) hS (fun H locs hW hS => ?_)
      refine lv_if_ne (tgt := 30) hx hb dX9_raises_25 (by decide) (fun h12 => ?_) (fun h12 => ?_)
      · rw [if_neg h12] at hm
        replace hm := ob hm; obtain ⟨x13, e14, hm⟩ := hm
        refine lv_iinc (v := x13) (lv' := [(2, .int x13), (0, .ref v0), (1, .int v1)]) hx hb dX9_raises_30 hl (k := 2) rfl (Option.some.inj e14) (by decide) rfl (fun ls hl => ?_)
        refine lv_goto (tgt := 12) hx hb dX9_raises_33 (by decide) ?_
        exact ih hm C0 hW hS (lv_sub hl [1, 2, 0] rfl) kr kk
      · rw [if_pos h12] at hm
        refine lv_iload_n hx hb dX9_raises_28 rfl (lv_at hl 2 rfl) ?_
        cases hm
        exact kr _ rfl _ _ _ _ dX9_raises_29 hW hS
set_option maxHeartbeats 4000000 in
set_option maxRecDepth 100000 in
theorem b_X9_raises {l : Launch} {D : va_G} {ca : Nat → ClassId} {A : Nat → Prop} {N : Nat} {σ : zS} {v0 : Nat} {v1 : Int32} {r0 : Int32} {σ' : zS} (hm : m_X9_raises N σ v0 v1 = some (r0, σ')) : Met l yX9_raises (.code yX9_raises cX9_raises 3 (some .int) :: wsL_law) ({ frames := 3, cells := 0, slots := 0, locals := 72 } : Room) (va_Pc [.ref v0, .int v1] (zP D ca A σ)) (zQi r0 D ca A σ') 0 0 A := by
  refine zMk (by decide +kernel) (Nat.le_of_ble_eq_true rfl) ?_
  intro p e s m below meth c C0 hr hlocks hin hW ls hl
  have hx := C0.1
  have hb := C0.2.1
  have hS : va_S A s.heap s.heap [] := va_S.rf
  have hl : lv_has ls 3 [(0, .ref v0), (1, .int v1)] := hl
  unfold m_X9_raises at hm
  refine lv_aload_n hx hb dX9_raises_0 rfl (lv_at hl 0 rfl) ?_
  refine lv_iload_n hx hb dX9_raises_1 rfl (lv_at hl 1 rfl) ?_
  replace hm := ob hm; obtain ⟨u1, e2, hm⟩ := hm
  replace hm := ob hm; obtain ⟨x4, e3, hm⟩ := hm
  refine z_calli (z_runV (As := [.int v1]) (rest := []) (ci := 9) rfl rfl C0 lv_X9_116 (b_X9_isTable e3) hW hS e2 rfl hl.1 rfl (Nat.le_of_ble_eq_true rfl) dX9_raises_2 rfl rfl ⟨Nat.le_of_ble_eq_true rfl, Nat.le_of_ble_eq_true rfl⟩ ⟨Nat.le_refl _, Nat.le_refl _⟩) hS (fun H locs hW hS => ?_)
  refine lv_if_ne (tgt := 10) hx hb dX9_raises_5 (by decide) (fun h5 => ?_) (fun h5 => ?_)
  · rw [if_neg h5] at hm
    refine lv_iconst (v := 0) hx hb dX9_raises_10 (by decide) ?_
    refine lv_istore_n (lv' := [(2, .int 0), (0, .ref v0), (1, .int v1)]) hx hb dX9_raises_11 rfl hl (by decide) rfl (fun ls hl => ?_)
    replace hm := obs hm; rcases hm with ⟨r9, e16, hm⟩ | ⟨z9, e16, hm⟩
    · cases hm
      refine w_X9_raises_L12 N N e16 C0 hW hS (lv_sub hl [1, 2, 0] rfl) (fun _ hq pc2 H locs ls d2 hW hS => ?_) (fun _ hq => by cases hq)
      cases hq
      exact r_iret C0 hr hlocks hW hS d2
    · obtain ⟨σ15, hz⟩ : ∃ y, y = z9 := ⟨_, rfl⟩; subst hz
      refine w_X9_raises_L12 N N e16 C0 hW hS (lv_sub hl [1, 2, 0] rfl) (fun _ hq => by cases hq) (fun q0 hq H locs ls hW hS hl => ?_)
      cases hq
      refine lv_bipush (v := (-4)) hx hb dX9_raises_36 (by decide) ?_
      obtain ⟨hq8, hq9⟩ := Prod.mk.inj (Option.some.inj hm); subst hq8; subst hq9
      exact r_iret C0 hr hlocks hW hS dX9_raises_38
  · rw [if_pos h5] at hm
    refine lv_iconst (v := (-1)) hx hb dX9_raises_8 (by decide) ?_
    obtain ⟨hq8, hq9⟩ := Prod.mk.inj (Option.some.inj hm); subst hq8; subst hq9
    exact r_iret C0 hr hlocks hW hS dX9_raises_9
set_option maxHeartbeats 4000000 in
set_option maxRecDepth 100000 in
theorem b_X9_reset {l : Launch} {D : va_G} {ca : Nat → ClassId} {A : Nat → Prop} {N : Nat} {σ : zS} {v0 : Nat} {v1 : Int32} {r0 : Int32} {σ' : zS} (hm : m_X9_reset N σ v0 v1 = some (r0, σ')) : Met l yX9_reset (.code yX9_reset cX9_reset 2 (some .int) :: wsL_law) ({ frames := 6, cells := 0, slots := 0, locals := 137 } : Room) (va_Pc [.ref v0, .int v1] (zP D ca A σ)) (zQi r0 D ca A σ') 0 0 A := by
  refine zMk (by decide +kernel) (Nat.le_of_ble_eq_true rfl) ?_
  intro p e s m below meth c C0 hr hlocks hin hW ls hl
  have hx := C0.1
  have hb := C0.2.1
  have hS : va_S A s.heap s.heap [] := va_S.rf
  have hl : lv_has ls 2 [(0, .ref v0), (1, .int v1)] := hl
  unfold m_X9_reset at hm
  refine lv_aload_n hx hb dX9_reset_0 rfl (lv_at hl 0 rfl) ?_
  replace hm := ob hm; obtain ⟨a1, e2, hm⟩ := hm
  refine r_getA C0 hW fl_X9_7 e2 dX9_reset_1 ?_
  refine lv_aload_n hx hb dX9_reset_4 rfl (lv_at hl 0 rfl) ?_
  replace hm := ob hm; obtain ⟨a3, e4, hm⟩ := hm
  refine r_getA C0 hW fl_X9_13 e4 dX9_reset_5 ?_
  replace hm := ob hm; obtain ⟨σ6, e5, hm⟩ := hm
  refine z_callv (z_runS (As := [.ref a1, .ref a3]) (rest := []) C0 ls_X9_34 (b_X9_copy e5) hW hS rfl hl.1 rfl (Nat.le_of_ble_eq_true rfl) dX9_reset_8 rfl rfl ⟨Nat.le_of_ble_eq_true rfl, Nat.le_of_ble_eq_true rfl⟩ ⟨Nat.le_refl _, Nat.le_refl _⟩) hS (fun H locs hW hS => ?_)
  refine lv_aload_n hx hb dX9_reset_11 rfl (lv_at hl 0 rfl) ?_
  refine lv_aload_n hx hb dX9_reset_12 rfl (lv_at hl 0 rfl) ?_
  refine lv_iload_n hx hb dX9_reset_13 rfl (lv_at hl 1 rfl) ?_
  replace hm := ob hm; obtain ⟨u7, e8, hm⟩ := hm
  replace hm := o2 hm; obtain ⟨x11, σ10, e9, hm⟩ := hm
  refine z_calli (z_runV (As := [.int v1]) (rest := [.ref v0]) (ci := 9) rfl rfl C0 lv_X9_154 (b_X9_resetsOne e9) hW hS e8 rfl hl.1 rfl (Nat.le_of_ble_eq_true rfl) dX9_reset_14 rfl rfl ⟨Nat.le_of_ble_eq_true rfl, Nat.le_of_ble_eq_true rfl⟩ ⟨Nat.le_refl _, Nat.le_refl _⟩) hS (fun H locs hW hS => ?_)
  replace hm := ob hm; obtain ⟨u12, e13, hm⟩ := hm
  replace hm := o2 hm; obtain ⟨x16, σ15, e14, hm⟩ := hm
  refine z_calli (z_runV (As := [.int x11]) (rest := []) (ci := 9) rfl rfl C0 lv_X9_144 (b_X9_ends e14) hW hS e13 rfl hl.1 rfl (Nat.le_of_ble_eq_true rfl) dX9_reset_17 rfl rfl ⟨Nat.le_of_ble_eq_true rfl, Nat.le_of_ble_eq_true rfl⟩ ⟨Nat.le_refl _, Nat.le_refl _⟩) hS (fun H locs hW hS => ?_)
  obtain ⟨hq8, hq9⟩ := Prod.mk.inj (Option.some.inj hm); subst hq8; subst hq9
  exact r_iret C0 hr hlocks hW hS dX9_reset_20
set_option maxHeartbeats 4000000 in
set_option maxRecDepth 100000 in
theorem w_X9_sawAt_L29 {p : Program} {l : Launch} {e : Env} {s : State} {m : MethodId} {args : Array Value} {below : List Frame} {meth : Method} {c : Code} {D : va_G} {ca : Nat → ClassId} {A : Nat → Prop} {Q : State → Prop} (N : Nat) : ∀ (n : Nat) {σ : zS} {v0 : Nat} {v1 : Int32} {v2 : Int32} {v3 : Int32} {v4 : Int32} {v5 : Int32} {res : (Int32) ⊕ (Unit)} {H : Heap} {locs : List Loc} {ls : Array Slot}, m_X9_sawAt_L29 N n σ v0 v1 v2 v3 v4 v5 = some res → zC p s m args c RX9 cX9_sawAt 7 D ca A → zW D ca A σ H → va_S A s.heap H locs → lv_has ls 7 [(0, .ref v0), (1, .int v1), (2, .int v2), (3, .int v3), (4, .int v4), (5, .int v5)] → (∀ (r : Int32), res = .inl r → ∀ (pc : Nat) (H : Heap) (locs : List Loc) (ls : Array Slot), decode cX9_sawAt pc = .ok (.ireturn, 1) → zW D ca A σ H → va_S A s.heap H locs → W p l e ({ frames := 2, cells := 0, slots := 0, locals := 43 } : Room) s m args below meth c H locs 0 0 Q (F0 m pc ls [.int r])) → (res = .inr () → ∀ (H : Heap) (locs : List Loc) (ls : Array Slot), zW D ca A σ H → va_S A s.heap H locs → lv_has ls 7 [] → W p l e ({ frames := 2, cells := 0, slots := 0, locals := 43 } : Room) s m args below meth c H locs 0 0 Q (F0 m 102 ls [])) → W p l e ({ frames := 2, cells := 0, slots := 0, locals := 43 } : Room) s m args below meth c H locs 0 0 Q (F0 m 29 ls []) := by
  intro n
  induction n with
  | zero =>
    intro σ v0 v1 v2 v3 v4 v5 res H locs ls hm C0 hW hS hl kr kk
    rw [m_X9_sawAt_L29] at hm
    cases hm
  | succ n ih =>
    intro σ v0 v1 v2 v3 v4 v5 res H locs ls hm C0 hW hS hl kr kk
    rw [m_X9_sawAt_L29] at hm
    have hx := C0.1
    have hb := C0.2.1
    refine lv_iload hx hb dX9_sawAt_29 (lv_at hl 5 rfl) ?_
    refine lv_sipush (v := 1000) hx hb dX9_sawAt_31 (by decide) ?_
    refine lv_icmp_ge (tgt := 102) hx hb dX9_sawAt_34 (by decide) (fun h10 => ?_) (fun h10 => ?_)
    · rw [if_pos h10] at hm
      cases hm
      exact kk  rfl _ _ _ hW hS (lv_sub hl [] rfl)
    · rw [if_neg h10] at hm
      refine lv_aload_n hx hb dX9_sawAt_37 rfl (lv_at hl 0 rfl) ?_
      replace hm := ob hm; obtain ⟨a11, e12, hm⟩ := hm
      refine r_getA C0 hW fl_X9_7 e12 dX9_sawAt_38 ?_
      refine lv_sipush (v := 165) hx hb dX9_sawAt_41 (by decide) ?_
      refine lv_sipush (v := 1000) hx hb dX9_sawAt_44 (by decide) ?_
      refine lv_iload_n hx hb dX9_sawAt_47 rfl (lv_at hl 1 rfl) ?_
      refine lv_imul hx hb dX9_sawAt_48 ?_
      refine lv_iadd hx hb dX9_sawAt_49 ?_
      refine lv_iload hx hb dX9_sawAt_50 (lv_at hl 5 rfl) ?_
      refine lv_iadd hx hb dX9_sawAt_52 ?_
      replace hm := ob hm; obtain ⟨x13, e14, hm⟩ := hm
      refine r_aI C0 hW e14 dX9_sawAt_53 ?_
      refine lv_istore (lv' := [(6, .int x13), (0, .ref v0), (1, .int v1), (2, .int v2), (3, .int v3), (4, .int v4), (5, .int v5)]) hx hb dX9_sawAt_54 hl (by decide) rfl (fun ls hl => ?_)
      refine lv_iload hx hb dX9_sawAt_56 (lv_at hl 0 rfl) ?_
      refine lv_if_le (tgt := 81) hx hb dX9_sawAt_58 (by decide) (fun h15 => ?_) (fun h15 => ?_)
      · rw [if_pos h15] at hm
        refine lv_iload hx hb dX9_sawAt_81 (lv_at hl 5 rfl) ?_
        refine lv_iload hx hb dX9_sawAt_83 (lv_at hl 0 rfl) ?_
        replace hm := ob hm; obtain ⟨y18, e23, hm⟩ := hm
        have J93_16 : ∀ (H : Heap) (locs : List Loc) (ls : Array Slot), zW D ca A σ H → va_S A s.heap H locs → lv_has ls 7 [(0, .ref v0), (1, .int v1), (2, .int v2), (3, .int v3), (5, .int v5)] → W p l e ({ frames := 2, cells := 0, slots := 0, locals := 43 } : Room) s m args below meth c H locs 0 0 Q (F0 m 93 ls [.int y18, .int v4]) := by
          intro H locs ls hW hS hl
          refine lv_iadd hx hb dX9_sawAt_93 ?_
          replace hm := ob hm; obtain ⟨x19, e20, hm⟩ := hm
          refine z_top e20 ?_
          refine lv_istore (lv' := [(4, .int x19), (0, .ref v0), (1, .int v1), (2, .int v2), (3, .int v3), (5, .int v5)]) hx hb dX9_sawAt_94 hl (by decide) rfl (fun ls hl => ?_)
          replace hm := ob hm; obtain ⟨x21, e22, hm⟩ := hm
          refine lv_iinc (v := x21) (lv' := [(5, .int x21), (4, .int x19), (0, .ref v0), (1, .int v1), (2, .int v2), (3, .int v3)]) hx hb dX9_sawAt_96 hl (k := 5) rfl (Option.some.inj e22) (by decide) rfl (fun ls hl => ?_)
          refine lv_goto (tgt := 29) hx hb dX9_sawAt_99 (by decide) ?_
          exact ih hm C0 hW hS (lv_sub hl [2, 3, 4, 5, 1, 0] rfl) kr kk
        clear hm
        have hm := e23
        clear e23
        refine lv_if_le (tgt := 92) hx hb dX9_sawAt_85 (by decide) (fun h16 => ?_) (fun h16 => ?_)
        · rw [if_pos h16] at hm
          refine lv_iconst (v := 0) hx hb dX9_sawAt_92 (by decide) ?_
          have hq1 := Option.some.inj hm; subst hq1
          exact J93_16 _ _ _ hW hS (lv_sub hl [1, 2, 3, 4, 6] rfl)
        · rw [if_neg h16] at hm
          refine lv_iconst (v := 1) hx hb dX9_sawAt_88 (by decide) ?_
          refine lv_goto (tgt := 93) hx hb dX9_sawAt_89 (by decide) ?_
          have hq1 := Option.some.inj hm; subst hq1
          exact J93_16 _ _ _ hW hS (lv_sub hl [1, 2, 3, 4, 6] rfl)
      · rw [if_neg h15] at hm
        refine lv_iload hx hb dX9_sawAt_61 (lv_at hl 5 rfl) ?_
        refine lv_iload_n hx hb dX9_sawAt_63 rfl (lv_at hl 3 rfl) ?_
        refine lv_icmp_ne (tgt := 81) hx hb dX9_sawAt_64 (by decide) (fun h24 => ?_) (fun h24 => ?_)
        · rw [if_neg h24] at hm
          refine lv_iload hx hb dX9_sawAt_81 (lv_at hl 5 rfl) ?_
          refine lv_iload hx hb dX9_sawAt_83 (lv_at hl 0 rfl) ?_
          replace hm := ob hm; obtain ⟨y27, e32, hm⟩ := hm
          have J93_25 : ∀ (H : Heap) (locs : List Loc) (ls : Array Slot), zW D ca A σ H → va_S A s.heap H locs → lv_has ls 7 [(0, .ref v0), (1, .int v1), (2, .int v2), (3, .int v3), (5, .int v5)] → W p l e ({ frames := 2, cells := 0, slots := 0, locals := 43 } : Room) s m args below meth c H locs 0 0 Q (F0 m 93 ls [.int y27, .int v4]) := by
            intro H locs ls hW hS hl
            refine lv_iadd hx hb dX9_sawAt_93 ?_
            replace hm := ob hm; obtain ⟨x28, e29, hm⟩ := hm
            refine z_top e29 ?_
            refine lv_istore (lv' := [(4, .int x28), (0, .ref v0), (1, .int v1), (2, .int v2), (3, .int v3), (5, .int v5)]) hx hb dX9_sawAt_94 hl (by decide) rfl (fun ls hl => ?_)
            replace hm := ob hm; obtain ⟨x30, e31, hm⟩ := hm
            refine lv_iinc (v := x30) (lv' := [(5, .int x30), (4, .int x28), (0, .ref v0), (1, .int v1), (2, .int v2), (3, .int v3)]) hx hb dX9_sawAt_96 hl (k := 5) rfl (Option.some.inj e31) (by decide) rfl (fun ls hl => ?_)
            refine lv_goto (tgt := 29) hx hb dX9_sawAt_99 (by decide) ?_
            exact ih hm C0 hW hS (lv_sub hl [2, 3, 4, 5, 1, 0] rfl) kr kk
          clear hm
          have hm := e32
          clear e32
          refine lv_if_le (tgt := 92) hx hb dX9_sawAt_85 (by decide) (fun h25 => ?_) (fun h25 => ?_)
          · rw [if_pos h25] at hm
            refine lv_iconst (v := 0) hx hb dX9_sawAt_92 (by decide) ?_
            have hq1 := Option.some.inj hm; subst hq1
            exact J93_25 _ _ _ hW hS (lv_sub hl [1, 2, 3, 4, 6] rfl)
          · rw [if_neg h25] at hm
            refine lv_iconst (v := 1) hx hb dX9_sawAt_88 (by decide) ?_
            refine lv_goto (tgt := 93) hx hb dX9_sawAt_89 (by decide) ?_
            have hq1 := Option.some.inj hm; subst hq1
            exact J93_25 _ _ _ hW hS (lv_sub hl [1, 2, 3, 4, 6] rfl)
        · rw [if_pos h24] at hm
          refine lv_iload_n hx hb dX9_sawAt_67 rfl (lv_at hl 4 rfl) ?_
          refine lv_if_ne (tgt := 76) hx hb dX9_sawAt_68 (by decide) (fun h33 => ?_) (fun h33 => ?_)
          · rw [if_neg h33] at hm
            refine lv_iload hx hb dX9_sawAt_76 (lv_at hl 0 rfl) ?_
            refine lv_iconst (v := 1) hx hb dX9_sawAt_78 (by decide) ?_
            refine lv_isub hx hb dX9_sawAt_79 ?_
            cases hm
            exact kr _ rfl _ _ _ _ dX9_sawAt_80 hW hS
          · rw [if_pos h33] at hm
            refine lv_iload hx hb dX9_sawAt_71 (lv_at hl 6 rfl) ?_
            refine lv_goto (tgt := 80) hx hb dX9_sawAt_73 (by decide) ?_
            cases hm
            exact kr _ rfl _ _ _ _ dX9_sawAt_80 hW hS
set_option maxHeartbeats 4000000 in
set_option maxRecDepth 100000 in
theorem b_X9_sawAt {l : Launch} {D : va_G} {ca : Nat → ClassId} {A : Nat → Prop} {N : Nat} {σ : zS} {v0 : Nat} {v1 : Int32} {v2 : Int32} {v3 : Int32} {r0 : Int32} (hm : m_X9_sawAt N σ v0 v1 v2 v3 = some r0) : Met l yX9_sawAt (.code yX9_sawAt cX9_sawAt 7 (some .int) :: wsL_law) ({ frames := 2, cells := 0, slots := 0, locals := 43 } : Room) (va_Pc [.ref v0, .int v1, .int v2, .int v3] (zP D ca A σ)) (zQi r0 D ca A σ) 0 0 A := by
  refine zMk (by decide +kernel) (Nat.le_of_ble_eq_true rfl) ?_
  intro p e s m below meth c C0 hr hlocks hin hW ls hl
  have hx := C0.1
  have hb := C0.2.1
  have hS : va_S A s.heap s.heap [] := va_S.rf
  have hl : lv_has ls 7 [(0, .ref v0), (1, .int v1), (2, .int v2), (3, .int v3)] := hl
  unfold m_X9_sawAt at hm
  refine lv_aload_n hx hb dX9_sawAt_0 rfl (lv_at hl 0 rfl) ?_
  refine lv_iload_n hx hb dX9_sawAt_1 rfl (lv_at hl 1 rfl) ?_
  replace hm := ob hm; obtain ⟨u1, e2, hm⟩ := hm
  replace hm := ob hm; obtain ⟨x4, e3, hm⟩ := hm
  refine z_calli (z_runV (As := [.int v1]) (rest := []) (ci := 9) rfl rfl C0 lv_X9_116 (b_X9_isTable e3) hW hS e2 rfl hl.1 rfl (Nat.le_of_ble_eq_true rfl) dX9_sawAt_2 rfl rfl ⟨Nat.le_of_ble_eq_true rfl, Nat.le_of_ble_eq_true rfl⟩ ⟨Nat.le_refl _, Nat.le_refl _⟩) hS (fun H locs hW hS => ?_)
  refine lv_if_eq (tgt := 21) hx hb dX9_sawAt_5 (by decide) (fun h5 => ?_) (fun h5 => ?_)
  · rw [if_pos h5] at hm
    refine lv_iconst (v := (-1)) hx hb dX9_sawAt_21 (by decide) ?_
    cases hm
    exact r_iret C0 hr hlocks hW hS dX9_sawAt_22
  · rw [if_neg h5] at hm
    refine lv_iload_n hx hb dX9_sawAt_8 rfl (lv_at hl 2 rfl) ?_
    refine lv_if_lt (tgt := 21) hx hb dX9_sawAt_9 (by decide) (fun h6 => ?_) (fun h6 => ?_)
    · rw [if_pos h6] at hm
      refine lv_iconst (v := (-1)) hx hb dX9_sawAt_21 (by decide) ?_
      cases hm
      exact r_iret C0 hr hlocks hW hS dX9_sawAt_22
    · rw [if_neg h6] at hm
      refine lv_iload_n hx hb dX9_sawAt_12 rfl (lv_at hl 3 rfl) ?_
      refine lv_iconst (v := 0) hx hb dX9_sawAt_13 (by decide) ?_
      refine lv_iconst (v := 1) hx hb dX9_sawAt_14 (by decide) ?_
      replace hm := ob hm; obtain ⟨x8, e7, hm⟩ := hm
      refine z_calli (z_runS (As := [.int v3, .int 0, .int 1]) (rest := []) C0 ls_X9_49 (b_X9_in e7) hW hS rfl hl.1 rfl (Nat.le_of_ble_eq_true rfl) dX9_sawAt_15 rfl rfl ⟨Nat.le_of_ble_eq_true rfl, Nat.le_of_ble_eq_true rfl⟩ ⟨Nat.le_refl _, Nat.le_refl _⟩) hS (fun H locs hW hS => ?_)
      refine lv_if_ne (tgt := 23) hx hb dX9_sawAt_18 (by decide) (fun h9 => ?_) (fun h9 => ?_)
      · rw [if_neg h9] at hm
        refine lv_iconst (v := 0) hx hb dX9_sawAt_23 (by decide) ?_
        refine lv_istore (lv' := [(4, .int 0), (0, .ref v0), (1, .int v1), (2, .int v2), (3, .int v3)]) hx hb dX9_sawAt_24 hl (by decide) rfl (fun ls hl => ?_)
        refine lv_iconst (v := 0) hx hb dX9_sawAt_26 (by decide) ?_
        refine lv_istore (lv' := [(5, .int 0), (4, .int 0), (0, .ref v0), (1, .int v1), (2, .int v2), (3, .int v3)]) hx hb dX9_sawAt_27 hl (by decide) rfl (fun ls hl => ?_)
        replace hm := obs hm; rcases hm with ⟨r9, e34, hm⟩ | ⟨z9, e34, hm⟩
        · cases hm
          refine w_X9_sawAt_L29 N N e34 C0 hW hS (lv_sub hl [2, 3, 4, 5, 1, 0] rfl) (fun _ hq pc2 H locs ls d2 hW hS => ?_) (fun  hq => by cases hq)
          cases hq
          exact r_iret C0 hr hlocks hW hS d2
        · refine w_X9_sawAt_L29 N N e34 C0 hW hS (lv_sub hl [2, 3, 4, 5, 1, 0] rfl) (fun _ hq => by cases hq) (fun  hq H locs ls hW hS hl => ?_)
          cases hq
          refine lv_bipush (v := (-4)) hx hb dX9_sawAt_102 (by decide) ?_
          cases hm
          exact r_iret C0 hr hlocks hW hS dX9_sawAt_104
      · rw [if_pos h9] at hm
        refine lv_iconst (v := (-1)) hx hb dX9_sawAt_21 (by decide) ?_
        cases hm
        exact r_iret C0 hr hlocks hW hS dX9_sawAt_22
set_option maxHeartbeats 4000000 in
set_option maxRecDepth 100000 in
theorem b_X9_table {l : Launch} {D : va_G} {ca : Nat → ClassId} {A : Nat → Prop} {N : Nat} {σ : zS} {v0 : Nat} {v1 : Int32} {v2 : Int32} {r0 : Int32} {σ' : zS} (hm : m_X9_table N σ v0 v1 v2 = some (r0, σ')) : Met l yX9_table (.code yX9_table cX9_table 3 (some .int) :: wsL_law) ({ frames := 4, cells := 0, slots := 0, locals := 85 } : Room) (va_Pc [.ref v0, .int v1, .int v2] (zP D ca A σ)) (zQi r0 D ca A σ') 0 0 A := by
  refine zMk (by decide +kernel) (Nat.le_of_ble_eq_true rfl) ?_
  intro p e s m below meth c C0 hr hlocks hin hW ls hl
  have hx := C0.1
  have hb := C0.2.1
  have hS : va_S A s.heap s.heap [] := va_S.rf
  have hl : lv_has ls 3 [(0, .ref v0), (1, .int v1), (2, .int v2)] := hl
  unfold m_X9_table at hm
  refine lv_aload_n hx hb dX9_table_0 rfl (lv_at hl 0 rfl) ?_
  replace hm := ob hm; obtain ⟨a1, e2, hm⟩ := hm
  refine r_getA C0 hW fl_X9_7 e2 dX9_table_1 ?_
  refine lv_aload_n hx hb dX9_table_4 rfl (lv_at hl 0 rfl) ?_
  replace hm := ob hm; obtain ⟨a3, e4, hm⟩ := hm
  refine r_getA C0 hW fl_X9_13 e4 dX9_table_5 ?_
  replace hm := ob hm; obtain ⟨σ6, e5, hm⟩ := hm
  refine z_callv (z_runS (As := [.ref a1, .ref a3]) (rest := []) C0 ls_X9_34 (b_X9_copy e5) hW hS rfl hl.1 rfl (Nat.le_of_ble_eq_true rfl) dX9_table_8 rfl rfl ⟨Nat.le_of_ble_eq_true rfl, Nat.le_of_ble_eq_true rfl⟩ ⟨Nat.le_refl _, Nat.le_refl _⟩) hS (fun H locs hW hS => ?_)
  refine lv_aload_n hx hb dX9_table_11 rfl (lv_at hl 0 rfl) ?_
  refine lv_aload_n hx hb dX9_table_12 rfl (lv_at hl 0 rfl) ?_
  refine lv_iload_n hx hb dX9_table_13 rfl (lv_at hl 1 rfl) ?_
  refine lv_iload_n hx hb dX9_table_14 rfl (lv_at hl 2 rfl) ?_
  replace hm := ob hm; obtain ⟨u7, e8, hm⟩ := hm
  replace hm := o2 hm; obtain ⟨x11, σ10, e9, hm⟩ := hm
  refine z_calli (z_runV (As := [.int v1, .int v2]) (rest := [.ref v0]) (ci := 9) rfl rfl C0 lv_X9_141 (b_X9_makeTable e9) hW hS e8 rfl hl.1 rfl (Nat.le_of_ble_eq_true rfl) dX9_table_15 rfl rfl ⟨Nat.le_of_ble_eq_true rfl, Nat.le_of_ble_eq_true rfl⟩ ⟨Nat.le_refl _, Nat.le_refl _⟩) hS (fun H locs hW hS => ?_)
  replace hm := ob hm; obtain ⟨u12, e13, hm⟩ := hm
  replace hm := o2 hm; obtain ⟨x16, σ15, e14, hm⟩ := hm
  refine z_calli (z_runV (As := [.int x11]) (rest := []) (ci := 9) rfl rfl C0 lv_X9_144 (b_X9_ends e14) hW hS e13 rfl hl.1 rfl (Nat.le_of_ble_eq_true rfl) dX9_table_18 rfl rfl ⟨Nat.le_of_ble_eq_true rfl, Nat.le_of_ble_eq_true rfl⟩ ⟨Nat.le_refl _, Nat.le_refl _⟩) hS (fun H locs hW hS => ?_)
  obtain ⟨hq8, hq9⟩ := Prod.mk.inj (Option.some.inj hm); subst hq8; subst hq9
  exact r_iret C0 hr hlocks hW hS dX9_table_21
set_option maxHeartbeats 4000000 in
set_option maxRecDepth 100000 in
theorem b_X9_tableOf {l : Launch} {D : va_G} {ca : Nat → ClassId} {A : Nat → Prop} {N : Nat} {σ : zS} {v0 : Nat} {v1 : Int32} {v2 : Int32} {r0 : Int32} (hm : m_X9_tableOf N σ v0 v1 v2 = some r0) : Met l yX9_tableOf (.code yX9_tableOf cX9_tableOf 4 (some .int) :: wsL_law) ({ frames := 6, cells := 0, slots := 0, locals := 134 } : Room) (va_Pc [.ref v0, .int v1, .int v2] (zP D ca A σ)) (zQi r0 D ca A σ) 0 0 A := by
  refine zMk (by decide +kernel) (Nat.le_of_ble_eq_true rfl) ?_
  intro p e s m below meth c C0 hr hlocks hin hW ls hl
  have hx := C0.1
  have hb := C0.2.1
  have hS : va_S A s.heap s.heap [] := va_S.rf
  have hl : lv_has ls 4 [(0, .ref v0), (1, .int v1), (2, .int v2)] := hl
  unfold m_X9_tableOf at hm
  refine lv_aload_n hx hb dX9_tableOf_0 rfl (lv_at hl 0 rfl) ?_
  refine lv_iload_n hx hb dX9_tableOf_1 rfl (lv_at hl 1 rfl) ?_
  replace hm := ob hm; obtain ⟨u1, e2, hm⟩ := hm
  replace hm := ob hm; obtain ⟨x4, e3, hm⟩ := hm
  refine z_calli (z_runV (As := [.int v1]) (rest := []) (ci := 9) rfl rfl C0 lv_X9_116 (b_X9_isTable e3) hW hS e2 rfl hl.1 rfl (Nat.le_of_ble_eq_true rfl) dX9_tableOf_2 rfl rfl ⟨Nat.le_of_ble_eq_true rfl, Nat.le_of_ble_eq_true rfl⟩ ⟨Nat.le_refl _, Nat.le_refl _⟩) hS (fun H locs hW hS => ?_)
  refine lv_if_eq (tgt := 18) hx hb dX9_tableOf_5 (by decide) (fun h5 => ?_) (fun h5 => ?_)
  · rw [if_pos h5] at hm
    refine lv_iconst (v := (-1)) hx hb dX9_tableOf_18 (by decide) ?_
    cases hm
    exact r_iret C0 hr hlocks hW hS dX9_tableOf_19
  · rw [if_neg h5] at hm
    refine lv_iload_n hx hb dX9_tableOf_8 rfl (lv_at hl 2 rfl) ?_
    refine lv_iconst (v := 0) hx hb dX9_tableOf_9 (by decide) ?_
    refine lv_bipush (v := 9) hx hb dX9_tableOf_10 (by decide) ?_
    replace hm := ob hm; obtain ⟨x7, e6, hm⟩ := hm
    refine z_calli (z_runS (As := [.int v2, .int 0, .int 9]) (rest := []) C0 ls_X9_49 (b_X9_in e6) hW hS rfl hl.1 rfl (Nat.le_of_ble_eq_true rfl) dX9_tableOf_12 rfl rfl ⟨Nat.le_of_ble_eq_true rfl, Nat.le_of_ble_eq_true rfl⟩ ⟨Nat.le_refl _, Nat.le_refl _⟩) hS (fun H locs hW hS => ?_)
    refine lv_if_ne (tgt := 20) hx hb dX9_tableOf_15 (by decide) (fun h8 => ?_) (fun h8 => ?_)
    · rw [if_neg h8] at hm
      refine lv_bipush (v := 23) hx hb dX9_tableOf_20 (by decide) ?_
      refine lv_iload_n hx hb dX9_tableOf_22 rfl (lv_at hl 1 rfl) ?_
      refine lv_imul hx hb dX9_tableOf_23 ?_
      replace hm := ob hm; obtain ⟨x9, e10, hm⟩ := hm
      refine z_top e10 ?_
      refine lv_istore_n (lv' := [(3, .int x9), (0, .ref v0), (1, .int v1), (2, .int v2)]) hx hb dX9_tableOf_24 rfl hl (by decide) rfl (fun ls hl => ?_)
      refine lv_iload_n hx hb dX9_tableOf_25 rfl (lv_at hl 3 rfl) ?_
      by_cases h11 : v2 = 0
      · rw [if_pos h11] at hm
        refine z_top (congrArg some h11) ?_
        refine lv_tableIn (tgt := 76) hx hb dX9_tableOf_26 (by decide) (by decide) rfl (by decide) ?_
        refine lv_aload_n hx hb dX9_tableOf_76 rfl (lv_at hl 1 rfl) ?_
        replace hm := ob hm; obtain ⟨a12, e13, hm⟩ := hm
        refine r_getA C0 hW fl_X9_7 e13 dX9_tableOf_77 ?_
        refine lv_iload_n hx hb dX9_tableOf_80 rfl (lv_at hl 0 rfl) ?_
        refine lv_iload_n hx hb dX9_tableOf_81 rfl (lv_at hl 3 rfl) ?_
        refine lv_iadd hx hb dX9_tableOf_82 ?_
        replace hm := ob hm; obtain ⟨x14, e15, hm⟩ := hm
        refine r_aI C0 hW e15 dX9_tableOf_83 ?_
        cases hm
        exact r_iret C0 hr hlocks hW hS dX9_tableOf_84
      · rw [if_neg h11] at hm
        by_cases h16 : v2 = 1
        · rw [if_pos h16] at hm
          refine z_top (congrArg some h16) ?_
          refine lv_tableIn (tgt := 76) hx hb dX9_tableOf_26 (by decide) (by decide) rfl (by decide) ?_
          refine lv_aload_n hx hb dX9_tableOf_76 rfl (lv_at hl 1 rfl) ?_
          replace hm := ob hm; obtain ⟨a17, e18, hm⟩ := hm
          refine r_getA C0 hW fl_X9_7 e18 dX9_tableOf_77 ?_
          refine lv_iload_n hx hb dX9_tableOf_80 rfl (lv_at hl 0 rfl) ?_
          refine lv_iload_n hx hb dX9_tableOf_81 rfl (lv_at hl 3 rfl) ?_
          refine lv_iadd hx hb dX9_tableOf_82 ?_
          replace hm := ob hm; obtain ⟨x19, e20, hm⟩ := hm
          refine r_aI C0 hW e20 dX9_tableOf_83 ?_
          cases hm
          exact r_iret C0 hr hlocks hW hS dX9_tableOf_84
        · rw [if_neg h16] at hm
          by_cases h21 : v2 = 2
          · rw [if_pos h21] at hm
            refine z_top (congrArg some h21) ?_
            refine lv_tableIn (tgt := 85) hx hb dX9_tableOf_26 (by decide) (by decide) rfl (by decide) ?_
            refine lv_aload_n hx hb dX9_tableOf_85 rfl (lv_at hl 1 rfl) ?_
            refine lv_iload_n hx hb dX9_tableOf_86 rfl (lv_at hl 2 rfl) ?_
            replace hm := ob hm; obtain ⟨u22, e23, hm⟩ := hm
            replace hm := ob hm; obtain ⟨x25, e24, hm⟩ := hm
            refine z_calli (z_runV (As := [.int v1]) (rest := []) (ci := 9) rfl rfl C0 lv_X9_95 (b_X9_toldOf e24) hW hS e23 rfl hl.1 rfl (Nat.le_of_ble_eq_true rfl) dX9_tableOf_87 rfl rfl ⟨Nat.le_of_ble_eq_true rfl, Nat.le_of_ble_eq_true rfl⟩ ⟨Nat.le_refl _, Nat.le_refl _⟩) hS (fun H locs hW hS => ?_)
            cases hm
            exact r_iret C0 hr hlocks hW hS dX9_tableOf_90
          · rw [if_neg h21] at hm
            by_cases h26 : v2 = 3
            · rw [if_pos h26] at hm
              refine z_top (congrArg some h26) ?_
              refine lv_tableIn (tgt := 91) hx hb dX9_tableOf_26 (by decide) (by decide) rfl (by decide) ?_
              refine lv_aload_n hx hb dX9_tableOf_91 rfl (lv_at hl 1 rfl) ?_
              refine lv_iload_n hx hb dX9_tableOf_92 rfl (lv_at hl 2 rfl) ?_
              replace hm := ob hm; obtain ⟨u27, e28, hm⟩ := hm
              replace hm := ob hm; obtain ⟨x30, e29, hm⟩ := hm
              refine z_calli (z_runV (As := [.int v1]) (rest := []) (ci := 9) rfl rfl C0 lv_X9_98 (b_X9_exact e29) hW hS e28 rfl hl.1 rfl (Nat.le_of_ble_eq_true rfl) dX9_tableOf_93 rfl rfl ⟨Nat.le_of_ble_eq_true rfl, Nat.le_of_ble_eq_true rfl⟩ ⟨Nat.le_refl _, Nat.le_refl _⟩) hS (fun H locs hW hS => ?_)
              cases hm
              exact r_iret C0 hr hlocks hW hS dX9_tableOf_96
            · rw [if_neg h26] at hm
              by_cases h31 : v2 = 4
              · rw [if_pos h31] at hm
                refine z_top (congrArg some h31) ?_
                refine lv_tableIn (tgt := 97) hx hb dX9_tableOf_26 (by decide) (by decide) rfl (by decide) ?_
                refine lv_aload_n hx hb dX9_tableOf_97 rfl (lv_at hl 1 rfl) ?_
                replace hm := ob hm; obtain ⟨a32, e33, hm⟩ := hm
                refine r_getA C0 hW fl_X9_7 e33 dX9_tableOf_98 ?_
                refine lv_iload_n hx hb dX9_tableOf_101 rfl (lv_at hl 0 rfl) ?_
                replace hm := ob hm; obtain ⟨x35, e34, hm⟩ := hm
                refine z_calli (z_runS (As := [.ref a32, .int x9]) (rest := []) C0 ls_X9_86 (b_X9_low e34) hW hS rfl hl.1 rfl (Nat.le_of_ble_eq_true rfl) dX9_tableOf_102 rfl rfl ⟨Nat.le_of_ble_eq_true rfl, Nat.le_of_ble_eq_true rfl⟩ ⟨Nat.le_refl _, Nat.le_refl _⟩) hS (fun H locs hW hS => ?_)
                cases hm
                exact r_iret C0 hr hlocks hW hS dX9_tableOf_105
              · rw [if_neg h31] at hm
                by_cases h36 : v2 = 5
                · rw [if_pos h36] at hm
                  refine z_top (congrArg some h36) ?_
                  refine lv_tableIn (tgt := 106) hx hb dX9_tableOf_26 (by decide) (by decide) rfl (by decide) ?_
                  refine lv_aload_n hx hb dX9_tableOf_106 rfl (lv_at hl 1 rfl) ?_
                  replace hm := ob hm; obtain ⟨a37, e38, hm⟩ := hm
                  refine r_getA C0 hW fl_X9_7 e38 dX9_tableOf_107 ?_
                  refine lv_iload_n hx hb dX9_tableOf_110 rfl (lv_at hl 0 rfl) ?_
                  replace hm := ob hm; obtain ⟨x40, e39, hm⟩ := hm
                  refine z_calli (z_runS (As := [.ref a37, .int x9]) (rest := []) C0 ls_X9_89 (b_X9_high e39) hW hS rfl hl.1 rfl (Nat.le_of_ble_eq_true rfl) dX9_tableOf_111 rfl rfl ⟨Nat.le_of_ble_eq_true rfl, Nat.le_of_ble_eq_true rfl⟩ ⟨Nat.le_refl _, Nat.le_refl _⟩) hS (fun H locs hW hS => ?_)
                  cases hm
                  exact r_iret C0 hr hlocks hW hS dX9_tableOf_114
                · rw [if_neg h36] at hm
                  by_cases h41 : v2 = 6
                  · rw [if_pos h41] at hm
                    refine z_top (congrArg some h41) ?_
                    refine lv_tableIn (tgt := 115) hx hb dX9_tableOf_26 (by decide) (by decide) rfl (by decide) ?_
                    refine lv_sipush (v := 1000) hx hb dX9_tableOf_115 (by decide) ?_
                    refine lv_aload_n hx hb dX9_tableOf_118 rfl (lv_at hl 1 rfl) ?_
                    refine lv_iload_n hx hb dX9_tableOf_119 rfl (lv_at hl 2 rfl) ?_
                    replace hm := ob hm; obtain ⟨u42, e43, hm⟩ := hm
                    replace hm := ob hm; obtain ⟨x45, e44, hm⟩ := hm
                    refine z_calli (z_runV (As := [.int v1]) (rest := [.int 1000]) (ci := 9) rfl rfl C0 lv_X9_157 (b_X9_error e44) hW hS e43 rfl hl.1 rfl (Nat.le_of_ble_eq_true rfl) dX9_tableOf_120 rfl rfl ⟨Nat.le_of_ble_eq_true rfl, Nat.le_of_ble_eq_true rfl⟩ ⟨Nat.le_refl _, Nat.le_refl _⟩) hS (fun H locs hW hS => ?_)
                    refine lv_iadd hx hb dX9_tableOf_123 ?_
                    cases hm
                    exact r_iret C0 hr hlocks hW hS dX9_tableOf_124
                  · rw [if_neg h41] at hm
                    by_cases h46 : v2 = 7
                    · rw [if_pos h46] at hm
                      refine z_top (congrArg some h46) ?_
                      refine lv_tableIn (tgt := 125) hx hb dX9_tableOf_26 (by decide) (by decide) rfl (by decide) ?_
                      refine lv_aload_n hx hb dX9_tableOf_125 rfl (lv_at hl 1 rfl) ?_
                      replace hm := ob hm; obtain ⟨a47, e48, hm⟩ := hm
                      refine r_getA C0 hW fl_X9_7 e48 dX9_tableOf_126 ?_
                      refine lv_iload_n hx hb dX9_tableOf_129 rfl (lv_at hl 0 rfl) ?_
                      refine lv_iconst (v := 2) hx hb dX9_tableOf_130 (by decide) ?_
                      refine lv_iadd hx hb dX9_tableOf_131 ?_
                      replace hm := ob hm; obtain ⟨x49, e50, hm⟩ := hm
                      refine r_aI C0 hW e50 dX9_tableOf_132 ?_
                      cases hm
                      exact r_iret C0 hr hlocks hW hS dX9_tableOf_133
                    · rw [if_neg h46] at hm
                      by_cases h51 : v2 = 8
                      · rw [if_pos h51] at hm
                        refine z_top (congrArg some h51) ?_
                        refine lv_tableIn (tgt := 134) hx hb dX9_tableOf_26 (by decide) (by decide) rfl (by decide) ?_
                        refine lv_aload_n hx hb dX9_tableOf_134 rfl (lv_at hl 1 rfl) ?_
                        replace hm := ob hm; obtain ⟨a52, e53, hm⟩ := hm
                        refine r_getA C0 hW fl_X9_7 e53 dX9_tableOf_135 ?_
                        refine lv_iload_n hx hb dX9_tableOf_138 rfl (lv_at hl 0 rfl) ?_
                        refine lv_iconst (v := 3) hx hb dX9_tableOf_139 (by decide) ?_
                        refine lv_iadd hx hb dX9_tableOf_140 ?_
                        replace hm := ob hm; obtain ⟨x54, e55, hm⟩ := hm
                        refine r_aI C0 hW e55 dX9_tableOf_141 ?_
                        cases hm
                        exact r_iret C0 hr hlocks hW hS dX9_tableOf_142
                      · rw [if_neg h51] at hm
                        refine lv_tableOut (tgt := 143) hx hb dX9_tableOf_26 (by have q0 := zne (a := 0) h11 (by decide); have q1 := zne (a := 1) h16 (by decide); have q2 := zne (a := 2) h21 (by decide); have q3 := zne (a := 3) h26 (by decide); have q4 := zne (a := 4) h31 (by decide); have q5 := zne (a := 5) h36 (by decide); have q6 := zne (a := 6) h41 (by decide); have q7 := zne (a := 7) h46 (by decide); have q8 := zne (a := 8) h51 (by decide); omega) (by decide) ?_
                        refine lv_aload_n hx hb dX9_tableOf_143 rfl (lv_at hl 1 rfl) ?_
                        replace hm := ob hm; obtain ⟨a56, e57, hm⟩ := hm
                        refine r_getA C0 hW fl_X9_7 e57 dX9_tableOf_144 ?_
                        refine lv_iload_n hx hb dX9_tableOf_147 rfl (lv_at hl 0 rfl) ?_
                        replace hm := ob hm; obtain ⟨x59, e58, hm⟩ := hm
                        refine z_calli (z_runS (As := [.ref a56, .int x9]) (rest := []) C0 ls_X9_83 (b_X9_rough e58) hW hS rfl hl.1 rfl (Nat.le_of_ble_eq_true rfl) dX9_tableOf_148 rfl rfl ⟨Nat.le_of_ble_eq_true rfl, Nat.le_of_ble_eq_true rfl⟩ ⟨Nat.le_refl _, Nat.le_refl _⟩) hS (fun H locs hW hS => ?_)
                        cases hm
                        exact r_iret C0 hr hlocks hW hS dX9_tableOf_151
    · rw [if_pos h8] at hm
      refine lv_iconst (v := (-1)) hx hb dX9_tableOf_18 (by decide) ?_
      cases hm
      exact r_iret C0 hr hlocks hW hS dX9_tableOf_19
set_option maxHeartbeats 4000000 in
set_option maxRecDepth 100000 in
theorem b_X9_type {l : Launch} {D : va_G} {ca : Nat → ClassId} {A : Nat → Prop} {N : Nat} {σ : zS} {v0 : Nat} {v1 : Int32} {r0 : Int32} {σ' : zS} (hm : m_X9_type N σ v0 v1 = some (r0, σ')) : Met l yX9_type (.code yX9_type cX9_type 2 (some .int) :: wsL_law) ({ frames := 1, cells := 0, slots := 0, locals := 22 } : Room) (va_Pc [.ref v0, .int v1] (zP D ca A σ)) (zQi r0 D ca A σ') 0 0 A := by
  refine zMk (by decide +kernel) (Nat.le_of_ble_eq_true rfl) ?_
  intro p e s m below meth c C0 hr hlocks hin hW ls hl
  have hx := C0.1
  have hb := C0.2.1
  have hS : va_S A s.heap s.heap [] := va_S.rf
  have hl : lv_has ls 2 [(0, .ref v0), (1, .int v1)] := hl
  unfold m_X9_type at hm
  refine lv_iload_n hx hb dX9_type_0 rfl (lv_at hl 1 rfl) ?_
  refine lv_bipush (v := 32) hx hb dX9_type_1 (by decide) ?_
  refine lv_bipush (v := 126) hx hb dX9_type_3 (by decide) ?_
  replace hm := ob hm; obtain ⟨x2, e1, hm⟩ := hm
  refine z_calli (z_runS (As := [.int v1, .int 32, .int 126]) (rest := []) C0 ls_X9_49 (b_X9_in e1) hW hS rfl hl.1 rfl (Nat.le_of_ble_eq_true rfl) dX9_type_5 rfl rfl ⟨Nat.le_of_ble_eq_true rfl, Nat.le_of_ble_eq_true rfl⟩ ⟨Nat.le_refl _, Nat.le_refl _⟩) hS (fun H locs hW hS => ?_)
  refine lv_if_ne (tgt := 13) hx hb dX9_type_8 (by decide) (fun h3 => ?_) (fun h3 => ?_)
  · rw [if_neg h3] at hm
    refine lv_aload_n hx hb dX9_type_13 rfl (lv_at hl 0 rfl) ?_
    replace hm := ob hm; obtain ⟨x4, e5, hm⟩ := hm
    refine r_getI C0 hW fl_X9_174 e5 dX9_type_14 ?_
    refine lv_bipush (v := 80) hx hb dX9_type_17 (by decide) ?_
    refine lv_icmp_ne (tgt := 25) hx hb dX9_type_19 (by decide) (fun h6 => ?_) (fun h6 => ?_)
    · rw [if_neg h6] at hm
      refine lv_aload_n hx hb dX9_type_25 rfl (lv_at hl 0 rfl) ?_
      replace hm := ob hm; obtain ⟨a7, e8, hm⟩ := hm
      refine r_getA C0 hW fl_X9_31 e8 dX9_type_26 ?_
      refine lv_aload_n hx hb dX9_type_29 rfl (lv_at hl 0 rfl) ?_
      replace hm := ob hm; obtain ⟨x9, e10, hm⟩ := hm
      refine r_getI C0 hW fl_X9_174 e10 dX9_type_30 ?_
      refine lv_iload_n hx hb dX9_type_33 rfl (lv_at hl 1 rfl) ?_
      replace hm := ob hm; obtain ⟨σ11, e12, hm⟩ := hm
      refine r_uI C0 hW hS e12 dX9_type_34 (fun H locs hW hS => ?_)
      refine lv_aload_n hx hb dX9_type_35 rfl (lv_at hl 0 rfl) ?_
      refine lv_dup hx hb dX9_type_36 rfl ?_
      replace hm := ob hm; obtain ⟨x13, e14, hm⟩ := hm
      refine r_getI C0 hW fl_X9_174 e14 dX9_type_37 ?_
      refine lv_iconst (v := 1) hx hb dX9_type_40 (by decide) ?_
      refine lv_iadd hx hb dX9_type_41 ?_
      replace hm := ob hm; obtain ⟨σ15, e16, hm⟩ := hm
      refine r_putI C0 hW hS fl_X9_174 e16 dX9_type_42 (fun H locs hW hS => ?_)
      refine lv_aload_n hx hb dX9_type_45 rfl (lv_at hl 0 rfl) ?_
      replace hm := ob hm; obtain ⟨x17, e18, hm⟩ := hm
      refine r_getI C0 hW fl_X9_174 e18 dX9_type_46 ?_
      obtain ⟨hq8, hq9⟩ := Prod.mk.inj (Option.some.inj hm); subst hq8; subst hq9
      exact r_iret C0 hr hlocks hW hS dX9_type_49
    · rw [if_pos h6] at hm
      refine lv_bipush (v := (-3)) hx hb dX9_type_22 (by decide) ?_
      obtain ⟨hq8, hq9⟩ := Prod.mk.inj (Option.some.inj hm); subst hq8; subst hq9
      exact r_iret C0 hr hlocks hW hS dX9_type_24
  · rw [if_pos h3] at hm
    refine lv_iconst (v := (-1)) hx hb dX9_type_11 (by decide) ?_
    obtain ⟨hq8, hq9⟩ := Prod.mk.inj (Option.some.inj hm); subst hq8; subst hq9
    exact r_iret C0 hr hlocks hW hS dX9_type_12
set_option maxHeartbeats 4000000 in
set_option maxRecDepth 100000 in
theorem b_X9_undo {l : Launch} {D : va_G} {ca : Nat → ClassId} {A : Nat → Prop} {N : Nat} {σ : zS} {v0 : Nat} {r0 : Int32} {σ' : zS} (hm : m_X9_undo N σ v0 = some (r0, σ')) : Met l yX9_undo (.code yX9_undo cX9_undo 1 (some .int) :: wsL_law) ({ frames := 2, cells := 0, slots := 0, locals := 43 } : Room) (va_Pc [.ref v0] (zP D ca A σ)) (zQi r0 D ca A σ') 0 0 A := by
  refine zMk (by decide +kernel) (Nat.le_of_ble_eq_true rfl) ?_
  intro p e s m below meth c C0 hr hlocks hin hW ls hl
  have hx := C0.1
  have hb := C0.2.1
  have hS : va_S A s.heap s.heap [] := va_S.rf
  have hl : lv_has ls 1 [(0, .ref v0)] := hl
  unfold m_X9_undo at hm
  refine lv_aload_n hx hb dX9_undo_0 rfl (lv_at hl 0 rfl) ?_
  replace hm := ob hm; obtain ⟨x1, e2, hm⟩ := hm
  refine r_getI C0 hW fl_X9_38 e2 dX9_undo_1 ?_
  refine lv_if_ne (tgt := 10) hx hb dX9_undo_4 (by decide) (fun h3 => ?_) (fun h3 => ?_)
  · rw [if_neg h3] at hm
    refine lv_aload_n hx hb dX9_undo_10 rfl (lv_at hl 0 rfl) ?_
    refine lv_dup hx hb dX9_undo_11 rfl ?_
    replace hm := ob hm; obtain ⟨x4, e5, hm⟩ := hm
    refine r_getI C0 hW fl_X9_38 e5 dX9_undo_12 ?_
    refine lv_iconst (v := 1) hx hb dX9_undo_15 (by decide) ?_
    refine lv_isub hx hb dX9_undo_16 ?_
    replace hm := ob hm; obtain ⟨σ6, e7, hm⟩ := hm
    refine r_putI C0 hW hS fl_X9_38 e7 dX9_undo_17 (fun H locs hW hS => ?_)
    refine lv_aload_n hx hb dX9_undo_20 rfl (lv_at hl 0 rfl) ?_
    refine lv_aload_n hx hb dX9_undo_21 rfl (lv_at hl 0 rfl) ?_
    replace hm := ob hm; obtain ⟨x8, e9, hm⟩ := hm
    refine r_getI C0 hW fl_X9_42 e9 dX9_undo_22 ?_
    refine lv_aload_n hx hb dX9_undo_25 rfl (lv_at hl 0 rfl) ?_
    replace hm := ob hm; obtain ⟨x10, e11, hm⟩ := hm
    refine r_getI C0 hW fl_X9_38 e11 dX9_undo_26 ?_
    refine lv_iadd hx hb dX9_undo_29 ?_
    refine lv_iconst (v := 4) hx hb dX9_undo_30 (by decide) ?_
    refine r_irem hx hb dX9_undo_31 (by decide) ?_
    replace hm := ob hm; obtain ⟨u12, e13, hm⟩ := hm
    replace hm := ob hm; obtain ⟨σ15, e14, hm⟩ := hm
    refine z_callv (z_runV (As := [.int (irem (x8 + x10) 4)]) (rest := []) (ci := 9) rfl rfl C0 lv_X9_193 (b_X9_brings e14) hW hS e13 rfl hl.1 rfl (Nat.le_of_ble_eq_true rfl) dX9_undo_32 rfl rfl ⟨Nat.le_of_ble_eq_true rfl, Nat.le_of_ble_eq_true rfl⟩ ⟨Nat.le_refl _, Nat.le_refl _⟩) hS (fun H locs hW hS => ?_)
    refine lv_aload_n hx hb dX9_undo_35 rfl (lv_at hl 0 rfl) ?_
    replace hm := ob hm; obtain ⟨x16, e17, hm⟩ := hm
    refine r_getI C0 hW fl_X9_38 e17 dX9_undo_36 ?_
    obtain ⟨hq8, hq9⟩ := Prod.mk.inj (Option.some.inj hm); subst hq8; subst hq9
    exact r_iret C0 hr hlocks hW hS dX9_undo_39
  · rw [if_pos h3] at hm
    refine lv_bipush (v := (-2)) hx hb dX9_undo_7 (by decide) ?_
    obtain ⟨hq8, hq9⟩ := Prod.mk.inj (Option.some.inj hm); subst hq8; subst hq9
    exact r_iret C0 hr hlocks hW hS dX9_undo_9
set_option maxHeartbeats 4000000 in
set_option maxRecDepth 100000 in
theorem b_X9_would {l : Launch} {D : va_G} {ca : Nat → ClassId} {A : Nat → Prop} {N : Nat} {σ : zS} {v0 : Nat} {v1 : Int32} {v2 : Int32} {r0 : Int32} {σ' : zS} (hm : m_X9_would N σ v0 v1 v2 = some (r0, σ')) : Met l yX9_would (.code yX9_would cX9_would 3 (some .int) :: wsL_law) ({ frames := 4, cells := 0, slots := 0, locals := 92 } : Room) (va_Pc [.ref v0, .int v1, .int v2] (zP D ca A σ)) (zQi r0 D ca A σ') 0 0 A := by
  refine zMk (by decide +kernel) (Nat.le_of_ble_eq_true rfl) ?_
  intro p e s m below meth c C0 hr hlocks hin hW ls hl
  have hx := C0.1
  have hb := C0.2.1
  have hS : va_S A s.heap s.heap [] := va_S.rf
  have hl : lv_has ls 3 [(0, .ref v0), (1, .int v1), (2, .int v2)] := hl
  unfold m_X9_would at hm
  refine lv_aload_n hx hb dX9_would_0 rfl (lv_at hl 0 rfl) ?_
  refine lv_iload_n hx hb dX9_would_1 rfl (lv_at hl 1 rfl) ?_
  replace hm := ob hm; obtain ⟨u1, e2, hm⟩ := hm
  replace hm := ob hm; obtain ⟨x4, e3, hm⟩ := hm
  refine z_calli (z_runV (As := [.int v1]) (rest := []) (ci := 9) rfl rfl C0 lv_X9_116 (b_X9_isTable e3) hW hS e2 rfl hl.1 rfl (Nat.le_of_ble_eq_true rfl) dX9_would_2 rfl rfl ⟨Nat.le_of_ble_eq_true rfl, Nat.le_of_ble_eq_true rfl⟩ ⟨Nat.le_refl _, Nat.le_refl _⟩) hS (fun H locs hW hS => ?_)
  refine lv_if_eq (tgt := 15) hx hb dX9_would_5 (by decide) (fun h5 => ?_) (fun h5 => ?_)
  · rw [if_pos h5] at hm
    refine lv_iconst (v := (-1)) hx hb dX9_would_15 (by decide) ?_
    obtain ⟨hq8, hq9⟩ := Prod.mk.inj (Option.some.inj hm); subst hq8; subst hq9
    exact r_iret C0 hr hlocks hW hS dX9_would_16
  · rw [if_neg h5] at hm
    refine lv_iload_n hx hb dX9_would_8 rfl (lv_at hl 2 rfl) ?_
    replace hm := ob hm; obtain ⟨x7, e6, hm⟩ := hm
    refine z_calli (z_runS (As := [.int v2]) (rest := []) C0 ls_X9_120 (b_X9_isThing e6) hW hS rfl hl.1 rfl (Nat.le_of_ble_eq_true rfl) dX9_would_9 rfl rfl ⟨Nat.le_of_ble_eq_true rfl, Nat.le_of_ble_eq_true rfl⟩ ⟨Nat.le_refl _, Nat.le_refl _⟩) hS (fun H locs hW hS => ?_)
    refine lv_if_ne (tgt := 17) hx hb dX9_would_12 (by decide) (fun h8 => ?_) (fun h8 => ?_)
    · rw [if_neg h8] at hm
      refine lv_aload_n hx hb dX9_would_17 rfl (lv_at hl 0 rfl) ?_
      refine lv_iload_n hx hb dX9_would_18 rfl (lv_at hl 1 rfl) ?_
      replace hm := ob hm; obtain ⟨u9, e10, hm⟩ := hm
      replace hm := ob hm; obtain ⟨σ12, e11, hm⟩ := hm
      refine z_callv (z_runV (As := [.int v1]) (rest := []) (ci := 9) rfl rfl C0 lv_X9_160 (b_X9_laysMix e11) hW hS e10 rfl hl.1 rfl (Nat.le_of_ble_eq_true rfl) dX9_would_19 rfl rfl ⟨Nat.le_of_ble_eq_true rfl, Nat.le_of_ble_eq_true rfl⟩ ⟨Nat.le_refl _, Nat.le_refl _⟩) hS (fun H locs hW hS => ?_)
      refine lv_aload_n hx hb dX9_would_22 rfl (lv_at hl 0 rfl) ?_
      replace hm := ob hm; obtain ⟨a13, e14, hm⟩ := hm
      refine r_getA C0 hW fl_X9_28 e14 dX9_would_23 ?_
      refine lv_iconst (v := 0) hx hb dX9_would_26 (by decide) ?_
      refine lv_iload_n hx hb dX9_would_27 rfl (lv_at hl 2 rfl) ?_
      refine lv_aload_n hx hb dX9_would_28 rfl (lv_at hl 0 rfl) ?_
      replace hm := ob hm; obtain ⟨a15, e16, hm⟩ := hm
      refine r_getA C0 hW fl_X9_28 e16 dX9_would_29 ?_
      refine lv_iconst (v := 1) hx hb dX9_would_32 (by decide) ?_
      replace hm := ob hm; obtain ⟨x17, e18, hm⟩ := hm
      refine r_aI C0 hW e18 dX9_would_33 ?_
      replace hm := ob hm; obtain ⟨x20, e19, hm⟩ := hm
      refine z_calli (z_runS (As := [.int v2, .int x17]) (rest := [.int 0, .ref a13]) C0 ls_X9_107 (b_X9_hashOf e19) hW hS rfl hl.1 rfl (Nat.le_of_ble_eq_true rfl) dX9_would_34 rfl rfl ⟨Nat.le_of_ble_eq_true rfl, Nat.le_of_ble_eq_true rfl⟩ ⟨Nat.le_refl _, Nat.le_refl _⟩) hS (fun H locs hW hS => ?_)
      replace hm := ob hm; obtain ⟨σ22, e21, hm⟩ := hm
      refine z_callv (z_runS (As := [.ref a13, .int 0, .int x20]) (rest := []) C0 ls_X9_110 (b_X9_keeps e21) hW hS rfl hl.1 rfl (Nat.le_of_ble_eq_true rfl) dX9_would_37 rfl rfl ⟨Nat.le_of_ble_eq_true rfl, Nat.le_of_ble_eq_true rfl⟩ ⟨Nat.le_refl _, Nat.le_refl _⟩) hS (fun H locs hW hS => ?_)
      refine lv_aload_n hx hb dX9_would_40 rfl (lv_at hl 0 rfl) ?_
      replace hm := ob hm; obtain ⟨a23, e24, hm⟩ := hm
      refine r_getA C0 hW fl_X9_28 e24 dX9_would_41 ?_
      refine lv_iconst (v := 2) hx hb dX9_would_44 (by decide) ?_
      refine lv_aload_n hx hb dX9_would_45 rfl (lv_at hl 0 rfl) ?_
      refine lv_aload_n hx hb dX9_would_46 rfl (lv_at hl 0 rfl) ?_
      replace hm := ob hm; obtain ⟨a25, e26, hm⟩ := hm
      refine r_getA C0 hW fl_X9_28 e26 dX9_would_47 ?_
      refine lv_iconst (v := 2) hx hb dX9_would_50 (by decide) ?_
      replace hm := ob hm; obtain ⟨x27, e28, hm⟩ := hm
      refine r_aI C0 hW e28 dX9_would_51 ?_
      refine lv_iconst (v := 1) hx hb dX9_would_52 (by decide) ?_
      replace hm := ob hm; obtain ⟨u29, e30, hm⟩ := hm
      replace hm := ob hm; obtain ⟨x32, e31, hm⟩ := hm
      refine z_calli (z_runV (As := [.int x27, .int 1]) (rest := [.int 2, .ref a23]) (ci := 9) rfl rfl C0 lv_X9_113 (b_X9_added e31) hW hS e30 rfl hl.1 rfl (Nat.le_of_ble_eq_true rfl) dX9_would_53 rfl rfl ⟨Nat.le_of_ble_eq_true rfl, Nat.le_of_ble_eq_true rfl⟩ ⟨Nat.le_refl _, Nat.le_refl _⟩) hS (fun H locs hW hS => ?_)
      replace hm := ob hm; obtain ⟨σ33, e34, hm⟩ := hm
      refine r_uI C0 hW hS e34 dX9_would_56 (fun H locs hW hS => ?_)
      refine lv_aload_n hx hb dX9_would_57 rfl (lv_at hl 0 rfl) ?_
      replace hm := ob hm; obtain ⟨a35, e36, hm⟩ := hm
      refine r_getA C0 hW fl_X9_28 e36 dX9_would_58 ?_
      refine lv_iconst (v := 0) hx hb dX9_would_61 (by decide) ?_
      replace hm := ob hm; obtain ⟨x38, e37, hm⟩ := hm
      refine z_calli (z_runS (As := [.ref a35, .int 0]) (rest := []) C0 ls_X9_92 (b_X9_told e37) hW hS rfl hl.1 rfl (Nat.le_of_ble_eq_true rfl) dX9_would_62 rfl rfl ⟨Nat.le_of_ble_eq_true rfl, Nat.le_of_ble_eq_true rfl⟩ ⟨Nat.le_refl _, Nat.le_refl _⟩) hS (fun H locs hW hS => ?_)
      obtain ⟨hq8, hq9⟩ := Prod.mk.inj (Option.some.inj hm); subst hq8; subst hq9
      exact r_iret C0 hr hlocks hW hS dX9_would_65
    · rw [if_pos h8] at hm
      refine lv_iconst (v := (-1)) hx hb dX9_would_15 (by decide) ?_
      obtain ⟨hq8, hq9⟩ := Prod.mk.inj (Option.some.inj hm); subst hq8; subst hq9
      exact r_iret C0 hr hlocks hW hS dX9_would_16
