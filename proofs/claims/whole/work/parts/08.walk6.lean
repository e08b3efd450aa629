set_option maxHeartbeats 4000000 in
set_option maxRecDepth 100000 in
theorem w_X9_resetsOne_L25 {p : Program} {l : Launch} {e : Env} {s : State} {m : MethodId} {args : Array Value} {below : List Frame} {meth : Method} {c : Code} {D : va_G} {ca : Nat → ClassId} {A : Nat → Prop} {Q : State → Prop} (N : Nat) : ∀ (n : Nat) {σ : zS} {v0 : Nat} {v1 : Int32} {v2 : Int32} {σ' : zS} {H : Heap} {locs : List Loc} {ls : Array Slot}, m_X9_resetsOne_L25 N n σ v0 v1 v2 = some σ' → zC p s m args c RX9 cX9_resetsOne 5 D ca A → zW D ca A σ H → va_S A s.heap H locs → lv_has ls 5 [(0, .ref v0), (1, .int v1), (2, .int v2)] → (∀ (H : Heap) (locs : List Loc) (ls : Array Slot), zW D ca A σ' H → va_S A s.heap H locs → lv_has ls 5 [(0, .ref v0), (1, .int v1)] → W p l e ({ frames := 5, cells := 0, slots := 0, locals := 113 } : Room) s m args below meth c H locs 0 0 Q (F0 m 57 ls [])) → W p l e ({ frames := 5, cells := 0, slots := 0, locals := 113 } : Room) s m args below meth c H locs 0 0 Q (F0 m 25 ls []) := by
  intro n
  induction n with
  | zero =>
    intro σ v0 v1 v2 σ' H locs ls hm C0 hW hS hl kk
    rw [m_X9_resetsOne_L25] at hm
    cases hm
  | succ n ih =>
    intro σ v0 v1 v2 σ' H locs ls hm C0 hW hS hl kk
    rw [m_X9_resetsOne_L25] at hm
    have hx := C0.1
    have hb := C0.2.1
    refine lv_iload_n hx hb dX9_resetsOne_25 rfl (lv_at hl 2 rfl) ?_
    refine lv_bipush (v := 21) hx hb dX9_resetsOne_26 (by decide) ?_
    refine lv_icmp_ge (tgt := 57) hx hb dX9_resetsOne_28 (by decide) (fun h12 => ?_) (fun h12 => ?_)
    · rw [if_pos h12] at hm
      cases hm
      exact kk _ _ _ hW hS (lv_sub hl [0, 1] rfl)
    · rw [if_neg h12] at hm
      refine lv_aload_n hx hb dX9_resetsOne_31 rfl (lv_at hl 0 rfl) ?_
      replace hm := ob hm; obtain ⟨a13, e14, hm⟩ := hm
      refine r_getA C0 hW fl_X9_7 e14 dX9_resetsOne_32 ?_
      refine lv_sipush (v := 141) hx hb dX9_resetsOne_35 (by decide) ?_
      refine lv_iload_n hx hb dX9_resetsOne_38 rfl (lv_at hl 2 rfl) ?_
      refine lv_iadd hx hb dX9_resetsOne_39 ?_
      refine lv_aload_n hx hb dX9_resetsOne_40 rfl (lv_at hl 0 rfl) ?_
      replace hm := ob hm; obtain ⟨a15, e16, hm⟩ := hm
      refine r_getA C0 hW fl_X9_7 e16 dX9_resetsOne_41 ?_
      refine lv_sipush (v := 144) hx hb dX9_resetsOne_44 (by decide) ?_
      refine lv_iload_n hx hb dX9_resetsOne_47 rfl (lv_at hl 2 rfl) ?_
      refine lv_iadd hx hb dX9_resetsOne_48 ?_
      replace hm := ob hm; obtain ⟨x17, e18, hm⟩ := hm
      refine r_aI C0 hW e18 dX9_resetsOne_49 ?_
      replace hm := ob hm; obtain ⟨σ19, e20, hm⟩ := hm
      refine r_uI C0 hW hS e20 dX9_resetsOne_50 (fun H locs hW hS => ?_)
      replace hm := ob hm; obtain ⟨x21, e22, hm⟩ := hm
      refine lv_iinc (v := x21) (lv' := [(2, .int x21), (0, .ref v0), (1, .int v1)]) hx hb dX9_resetsOne_51 hl (k := 2) rfl (Option.some.inj e22) (by decide) rfl (fun ls hl => ?_)
      refine lv_goto (tgt := 25) hx hb dX9_resetsOne_54 (by decide) ?_
      exact ih hm C0 hW hS (lv_sub hl [1, 2, 0] rfl) kk
set_option maxHeartbeats 4000000 in
set_option maxRecDepth 100000 in
theorem w_X9_resetsOne_L134 {p : Program} {l : Launch} {e : Env} {s : State} {m : MethodId} {args : Array Value} {below : List Frame} {meth : Method} {c : Code} {D : va_G} {ca : Nat → ClassId} {A : Nat → Prop} {Q : State → Prop} (N : Nat) : ∀ (n : Nat) {σ : zS} {v0 : Nat} {v1 : Int32} {v3 : Int32} {v4 : Int32} {σ' : zS} {H : Heap} {locs : List Loc} {ls : Array Slot}, m_X9_resetsOne_L134 N n σ v0 v1 v3 v4 = some σ' → zC p s m args c RX9 cX9_resetsOne 5 D ca A → zW D ca A σ H → va_S A s.heap H locs → lv_has ls 5 [(0, .ref v0), (1, .int v1), (3, .int v3), (4, .int v4)] → (∀ (H : Heap) (locs : List Loc) (ls : Array Slot), zW D ca A σ' H → va_S A s.heap H locs → lv_has ls 5 [(0, .ref v0), (1, .int v1), (3, .int v3)] → W p l e ({ frames := 5, cells := 0, slots := 0, locals := 113 } : Room) s m args below meth c H locs 0 0 Q (F0 m 183 ls [])) → W p l e ({ frames := 5, cells := 0, slots := 0, locals := 113 } : Room) s m args below meth c H locs 0 0 Q (F0 m 134 ls []) := by
  intro n
  induction n with
  | zero =>
    intro σ v0 v1 v3 v4 σ' H locs ls hm C0 hW hS hl kk
    rw [m_X9_resetsOne_L134] at hm
    cases hm
  | succ n ih =>
    intro σ v0 v1 v3 v4 σ' H locs ls hm C0 hW hS hl kk
    rw [m_X9_resetsOne_L134] at hm
    have hx := C0.1
    have hb := C0.2.1
    refine lv_iload hx hb dX9_resetsOne_134 (lv_at hl 3 rfl) ?_
    refine lv_bipush (v := 23) hx hb dX9_resetsOne_136 (by decide) ?_
    refine lv_icmp_ge (tgt := 183) hx hb dX9_resetsOne_138 (by decide) (fun h53 => ?_) (fun h53 => ?_)
    · rw [if_pos h53] at hm
      cases hm
      exact kk _ _ _ hW hS (lv_sub hl [0, 1, 2] rfl)
    · rw [if_neg h53] at hm
      refine lv_aload_n hx hb dX9_resetsOne_141 rfl (lv_at hl 0 rfl) ?_
      replace hm := ob hm; obtain ⟨a54, e55, hm⟩ := hm
      refine r_getA C0 hW fl_X9_7 e55 dX9_resetsOne_142 ?_
      refine lv_bipush (v := 23) hx hb dX9_resetsOne_145 (by decide) ?_
      refine lv_iload_n hx hb dX9_resetsOne_147 rfl (lv_at hl 1 rfl) ?_
      refine lv_imul hx hb dX9_resetsOne_148 ?_
      refine lv_iload hx hb dX9_resetsOne_149 (lv_at hl 3 rfl) ?_
      refine lv_iadd hx hb dX9_resetsOne_151 ?_
      refine lv_iload hx hb dX9_resetsOne_152 (lv_at hl 3 rfl) ?_
      refine lv_iconst (v := 3) hx hb dX9_resetsOne_154 (by decide) ?_
      replace hm := ob hm; obtain ⟨y62, e67, hm⟩ := hm
      have J176_56 : ∀ (H : Heap) (locs : List Loc) (ls : Array Slot), zW D ca A σ H → va_S A s.heap H locs → lv_has ls 5 [(0, .ref v0), (1, .int v1), (3, .int v3), (4, .int v4)] → W p l e ({ frames := 5, cells := 0, slots := 0, locals := 113 } : Room) s m args below meth c H locs 0 0 Q (F0 m 176 ls [.int y62, .int ((23 * v1) + v4), .ref a54]) := by
        intro H locs ls hW hS hl
        replace hm := ob hm; obtain ⟨σ63, e64, hm⟩ := hm
        refine r_uI C0 hW hS e64 dX9_resetsOne_176 (fun H locs hW hS => ?_)
        replace hm := ob hm; obtain ⟨x65, e66, hm⟩ := hm
        refine lv_iinc (v := x65) (lv' := [(4, .int x65), (0, .ref v0), (1, .int v1), (3, .int v3)]) hx hb dX9_resetsOne_177 hl (k := 3) rfl (Option.some.inj e66) (by decide) rfl (fun ls hl => ?_)
        refine lv_goto (tgt := 134) hx hb dX9_resetsOne_180 (by decide) ?_
        exact ih hm C0 hW hS (lv_sub hl [1, 2, 3, 0] rfl) kk
      clear hm
      have hm := e67
      clear e67
      refine lv_icmp_ne (tgt := 175) hx hb dX9_resetsOne_155 (by decide) (fun h56 => ?_) (fun h56 => ?_)
      · rw [if_neg h56] at hm
        refine lv_iconst (v := 0) hx hb dX9_resetsOne_175 (by decide) ?_
        have hq1 := Option.some.inj hm; subst hq1
        exact J176_56 _ _ _ hW hS (lv_sub hl [0, 1, 2, 3] rfl)
      · rw [if_pos h56] at hm
        refine lv_aload_n hx hb dX9_resetsOne_158 rfl (lv_at hl 0 rfl) ?_
        replace hm := ob hm; obtain ⟨a58, e59, hm⟩ := hm
        refine r_getA C0 hW fl_X9_7 e59 dX9_resetsOne_159 ?_
        refine lv_bipush (v := 23) hx hb dX9_resetsOne_162 (by decide) ?_
        refine lv_iload_n hx hb dX9_resetsOne_164 rfl (lv_at hl 1 rfl) ?_
        refine lv_imul hx hb dX9_resetsOne_165 ?_
        refine lv_iload hx hb dX9_resetsOne_166 (lv_at hl 3 rfl) ?_
        refine lv_iadd hx hb dX9_resetsOne_168 ?_
        replace hm := ob hm; obtain ⟨x60, e61, hm⟩ := hm
        refine r_aI C0 hW e61 dX9_resetsOne_169 ?_
        refine lv_iconst (v := 1) hx hb dX9_resetsOne_170 (by decide) ?_
        refine lv_iadd hx hb dX9_resetsOne_171 ?_
        refine lv_goto (tgt := 176) hx hb dX9_resetsOne_172 (by decide) ?_
        have hq1 := Option.some.inj hm; subst hq1
        exact J176_56 _ _ _ hW hS (lv_sub hl [0, 1, 2, 3] rfl)
set_option maxHeartbeats 4000000 in
set_option maxRecDepth 100000 in
theorem b_X9_resetsOne {l : Launch} {D : va_G} {ca : Nat → ClassId} {A : Nat → Prop} {N : Nat} {σ : zS} {v0 : Nat} {v1 : Int32} {r0 : Int32} {σ' : zS} (hm : m_X9_resetsOne N σ v0 v1 = some (r0, σ')) : Met l yX9_resetsOne (.code yX9_resetsOne cX9_resetsOne 5 (some .int) :: wsL_law) ({ frames := 5, cells := 0, slots := 0, locals := 113 } : Room) (va_Pc [.ref v0, .int v1] (zP D ca A σ)) (zQi r0 D ca A σ') 0 0 A := by
  refine zMk (by decide +kernel) (Nat.le_of_ble_eq_true rfl) ?_
  intro p e s m below meth c C0 hr hlocks hin hW ls hl
  have hx := C0.1
  have hb := C0.2.1
  have hS : va_S A s.heap s.heap [] := va_S.rf
  have hl : lv_has ls 5 [(0, .ref v0), (1, .int v1)] := hl
  unfold m_X9_resetsOne at hm
  refine lv_aload_n hx hb dX9_resetsOne_0 rfl (lv_at hl 0 rfl) ?_
  refine lv_iload_n hx hb dX9_resetsOne_1 rfl (lv_at hl 1 rfl) ?_
  replace hm := ob hm; obtain ⟨u1, e2, hm⟩ := hm
  replace hm := ob hm; obtain ⟨x4, e3, hm⟩ := hm
  refine z_calli (z_runV (As := [.int v1]) (rest := []) (ci := 9) rfl rfl C0 lv_X9_116 (b_X9_isTable e3) hW hS e2 rfl hl.1 rfl (Nat.le_of_ble_eq_true rfl) dX9_resetsOne_2 rfl rfl ⟨Nat.le_of_ble_eq_true rfl, Nat.le_of_ble_eq_true rfl⟩ ⟨Nat.le_refl _, Nat.le_refl _⟩) hS (fun H locs hW hS => ?_)
  refine lv_if_ne (tgt := 10) hx hb dX9_resetsOne_5 (by decide) (fun h5 => ?_) (fun h5 => ?_)
  · rw [if_neg h5] at hm
    refine lv_aload_n hx hb dX9_resetsOne_10 rfl (lv_at hl 0 rfl) ?_
    replace hm := ob hm; obtain ⟨a6, e7, hm⟩ := hm
    refine r_getA C0 hW fl_X9_7 e7 dX9_resetsOne_11 ?_
    refine lv_sipush (v := 140) hx hb dX9_resetsOne_14 (by decide) ?_
    replace hm := ob hm; obtain ⟨x8, e9, hm⟩ := hm
    refine r_aI C0 hW e9 dX9_resetsOne_17 ?_
    refine lv_bipush (v := 8) hx hb dX9_resetsOne_18 (by decide) ?_
    replace hm := ob hm; obtain ⟨σ20, e74, hm⟩ := hm
    have J69_10 : ∀ (H : Heap) (locs : List Loc) (ls : Array Slot), zW D ca A σ20 H → va_S A s.heap H locs → lv_has ls 5 [(0, .ref v0), (1, .int v1)] → W p l e ({ frames := 5, cells := 0, slots := 0, locals := 113 } : Room) s m (List.toArray [.ref v0, .int v1]) below meth c H locs 0 0 (MQ below (zQi r0 D ca A σ') (List.toArray [.ref v0, .int v1]) s 0 0 A) (F0 m 69 ls []) := by
      intro H locs ls hW hS hl
      refine lv_sipush (v := 141) hx hb dX9_resetsOne_69 (by decide) ?_
      refine lv_iconst (v := 3) hx hb dX9_resetsOne_72 (by decide) ?_
      refine lv_aload_n hx hb dX9_resetsOne_73 rfl (lv_at hl 0 rfl) ?_
      replace hm := ob hm; obtain ⟨a21, e22, hm⟩ := hm
      refine r_getA C0 hW fl_X9_7 e22 dX9_resetsOne_74 ?_
      refine lv_sipush (v := 140) hx hb dX9_resetsOne_77 (by decide) ?_
      replace hm := ob hm; obtain ⟨x23, e24, hm⟩ := hm
      refine r_aI C0 hW e24 dX9_resetsOne_80 ?_
      refine lv_imul hx hb dX9_resetsOne_81 ?_
      refine lv_iadd hx hb dX9_resetsOne_82 ?_
      replace hm := ob hm; obtain ⟨x25, e26, hm⟩ := hm
      refine z_top e26 ?_
      refine lv_istore_n (lv' := [(2, .int x25), (0, .ref v0), (1, .int v1)]) hx hb dX9_resetsOne_83 rfl hl (by decide) rfl (fun ls hl => ?_)
      refine lv_aload_n hx hb dX9_resetsOne_84 rfl (lv_at hl 1 rfl) ?_
      refine lv_iload_n hx hb dX9_resetsOne_85 rfl (lv_at hl 2 rfl) ?_
      replace hm := ob hm; obtain ⟨u27, e28, hm⟩ := hm
      replace hm := ob hm; obtain ⟨x30, e29, hm⟩ := hm
      refine z_calli (z_runV (As := [.int v1]) (rest := []) (ci := 9) rfl rfl C0 lv_X9_98 (b_X9_exact e29) hW hS e28 rfl hl.1 rfl (Nat.le_of_ble_eq_true rfl) dX9_resetsOne_86 rfl rfl ⟨Nat.le_of_ble_eq_true rfl, Nat.le_of_ble_eq_true rfl⟩ ⟨Nat.le_refl _, Nat.le_refl _⟩) hS (fun H locs hW hS => ?_)
      refine lv_istore_n (lv' := [(3, .int x30), (2, .int x25), (0, .ref v0), (1, .int v1)]) hx hb dX9_resetsOne_89 rfl hl (by decide) rfl (fun ls hl => ?_)
      refine lv_aload_n hx hb dX9_resetsOne_90 rfl (lv_at hl 2 rfl) ?_
      replace hm := ob hm; obtain ⟨a31, e32, hm⟩ := hm
      refine r_getA C0 hW fl_X9_7 e32 dX9_resetsOne_91 ?_
      refine lv_iload_n hx hb dX9_resetsOne_94 rfl (lv_at hl 1 rfl) ?_
      refine lv_iload_n hx hb dX9_resetsOne_95 rfl (lv_at hl 3 rfl) ?_
      replace hm := ob hm; obtain ⟨σ33, e34, hm⟩ := hm
      refine r_uI C0 hW hS e34 dX9_resetsOne_96 (fun H locs hW hS => ?_)
      refine lv_aload_n hx hb dX9_resetsOne_97 rfl (lv_at hl 2 rfl) ?_
      replace hm := ob hm; obtain ⟨a35, e36, hm⟩ := hm
      refine r_getA C0 hW fl_X9_7 e36 dX9_resetsOne_98 ?_
      refine lv_iload_n hx hb dX9_resetsOne_101 rfl (lv_at hl 1 rfl) ?_
      refine lv_iconst (v := 1) hx hb dX9_resetsOne_102 (by decide) ?_
      refine lv_iadd hx hb dX9_resetsOne_103 ?_
      refine lv_aload_n hx hb dX9_resetsOne_104 rfl (lv_at hl 2 rfl) ?_
      refine lv_iload_n hx hb dX9_resetsOne_105 rfl (lv_at hl 3 rfl) ?_
      replace hm := ob hm; obtain ⟨u37, e38, hm⟩ := hm
      replace hm := ob hm; obtain ⟨x40, e39, hm⟩ := hm
      refine z_calli (z_runV (As := [.int v1]) (rest := [.int (x25 + 1), .ref a35]) (ci := 9) rfl rfl C0 lv_X9_95 (b_X9_toldOf e39) hW hS e38 rfl hl.1 rfl (Nat.le_of_ble_eq_true rfl) dX9_resetsOne_106 rfl rfl ⟨Nat.le_of_ble_eq_true rfl, Nat.le_of_ble_eq_true rfl⟩ ⟨Nat.le_refl _, Nat.le_refl _⟩) hS (fun H locs hW hS => ?_)
      replace hm := ob hm; obtain ⟨σ41, e42, hm⟩ := hm
      refine r_uI C0 hW hS e42 dX9_resetsOne_109 (fun H locs hW hS => ?_)
      refine lv_aload_n hx hb dX9_resetsOne_110 rfl (lv_at hl 2 rfl) ?_
      replace hm := ob hm; obtain ⟨a43, e44, hm⟩ := hm
      refine r_getA C0 hW fl_X9_7 e44 dX9_resetsOne_111 ?_
      refine lv_iload_n hx hb dX9_resetsOne_114 rfl (lv_at hl 1 rfl) ?_
      refine lv_iconst (v := 2) hx hb dX9_resetsOne_115 (by decide) ?_
      refine lv_iadd hx hb dX9_resetsOne_116 ?_
      refine lv_iload_n hx hb dX9_resetsOne_117 rfl (lv_at hl 0 rfl) ?_
      replace hm := ob hm; obtain ⟨σ45, e46, hm⟩ := hm
      refine r_uI C0 hW hS e46 dX9_resetsOne_118 (fun H locs hW hS => ?_)
      refine lv_aload_n hx hb dX9_resetsOne_119 rfl (lv_at hl 2 rfl) ?_
      replace hm := ob hm; obtain ⟨a47, e48, hm⟩ := hm
      refine r_getA C0 hW fl_X9_7 e48 dX9_resetsOne_120 ?_
      refine lv_sipush (v := 140) hx hb dX9_resetsOne_123 (by decide) ?_
      refine lv_dup2_11 hx hb dX9_resetsOne_126 rfl rfl ?_
      replace hm := ob hm; obtain ⟨x49, e50, hm⟩ := hm
      refine r_aI C0 hW e50 dX9_resetsOne_127 ?_
      refine lv_iconst (v := 1) hx hb dX9_resetsOne_128 (by decide) ?_
      refine lv_iadd hx hb dX9_resetsOne_129 ?_
      replace hm := ob hm; obtain ⟨σ51, e52, hm⟩ := hm
      refine r_uI C0 hW hS e52 dX9_resetsOne_130 (fun H locs hW hS => ?_)
      refine lv_iconst (v := 2) hx hb dX9_resetsOne_131 (by decide) ?_
      refine lv_istore (lv' := [(4, .int 2), (3, .int x30), (2, .int x25), (0, .ref v0), (1, .int v1)]) hx hb dX9_resetsOne_132 hl (by decide) rfl (fun ls hl => ?_)
      replace hm := ob hm; obtain ⟨σ68, e69, hm⟩ := hm
      refine w_X9_resetsOne_L134 N N e69 C0 hW hS (lv_sub hl [3, 4, 1, 0] rfl) (fun H locs ls hW hS hl => ?_)
      refine lv_aload_n hx hb dX9_resetsOne_183 rfl (lv_at hl 0 rfl) ?_
      refine lv_iload_n hx hb dX9_resetsOne_184 rfl (lv_at hl 1 rfl) ?_
      replace hm := ob hm; obtain ⟨u70, e71, hm⟩ := hm
      replace hm := ob hm; obtain ⟨σ73, e72, hm⟩ := hm
      refine z_callv (z_runV (As := [.int v1]) (rest := []) (ci := 9) rfl rfl C0 lv_X9_104 (b_X9_forgets e72) hW hS e71 rfl hl.1 rfl (Nat.le_of_ble_eq_true rfl) dX9_resetsOne_185 rfl rfl ⟨Nat.le_of_ble_eq_true rfl, Nat.le_of_ble_eq_true rfl⟩ ⟨Nat.le_refl _, Nat.le_refl _⟩) hS (fun H locs hW hS => ?_)
      refine lv_iload_n hx hb dX9_resetsOne_188 rfl (lv_at hl 2 rfl) ?_
      obtain ⟨hq8, hq9⟩ := Prod.mk.inj (Option.some.inj hm); subst hq8; subst hq9
      exact r_iret C0 hr hlocks hW hS dX9_resetsOne_189
    clear hm
    have hm := e74
    clear e74
    refine lv_icmp_ne (tgt := 69) hx hb dX9_resetsOne_20 (by decide) (fun h10 => ?_) (fun h10 => ?_)
    · rw [if_neg h10] at hm
      have hq1 := Option.some.inj hm; subst hq1
      exact J69_10 _ _ _ hW hS (lv_sub hl [0, 1] rfl)
    · rw [if_pos h10] at hm
      refine lv_iconst (v := 0) hx hb dX9_resetsOne_23 (by decide) ?_
      refine lv_istore_n (lv' := [(2, .int 0), (0, .ref v0), (1, .int v1)]) hx hb dX9_resetsOne_24 rfl hl (by decide) rfl (fun ls hl => ?_)
      replace hm := ob hm; obtain ⟨σ12, e13, hm⟩ := hm
      refine w_X9_resetsOne_L25 N N e13 C0 hW hS (lv_sub hl [1, 2, 0] rfl) (fun H locs ls hW hS hl => ?_)
      refine lv_aload_n hx hb dX9_resetsOne_57 rfl (lv_at hl 0 rfl) ?_
      replace hm := ob hm; obtain ⟨a14, e15, hm⟩ := hm
      refine r_getA C0 hW fl_X9_7 e15 dX9_resetsOne_58 ?_
      refine lv_sipush (v := 140) hx hb dX9_resetsOne_61 (by decide) ?_
      refine lv_dup2_11 hx hb dX9_resetsOne_64 rfl rfl ?_
      replace hm := ob hm; obtain ⟨x16, e17, hm⟩ := hm
      refine r_aI C0 hW e17 dX9_resetsOne_65 ?_
      refine lv_iconst (v := 1) hx hb dX9_resetsOne_66 (by decide) ?_
      refine lv_isub hx hb dX9_resetsOne_67 ?_
      replace hm := ob hm; obtain ⟨σ18, e19, hm⟩ := hm
      refine r_uI C0 hW hS e19 dX9_resetsOne_68 (fun H locs hW hS => ?_)
      have hq1 := Option.some.inj hm; subst hq1
      exact J69_10 _ _ _ hW hS (lv_sub hl [0, 1] rfl)
  · rw [if_pos h5] at hm
    refine lv_iconst (v := (-1)) hx hb dX9_resetsOne_8 (by decide) ?_
    obtain ⟨hq8, hq9⟩ := Prod.mk.inj (Option.some.inj hm); subst hq8; subst hq9
    exact r_iret C0 hr hlocks hW hS dX9_resetsOne_9
set_option maxHeartbeats 4000000 in
set_option maxRecDepth 100000 in
theorem b_X9_command {l : Launch} {D : va_G} {ca : Nat → ClassId} {A : Nat → Prop} {N : Nat} {σ : zS} {v0 : Nat} {r0 : Int32} {σ' : zS} (hm : m_X9_command N σ v0 = some (r0, σ')) : Met l yX9_command (.code yX9_command cX9_command 6 (some .int) :: wsL_law) ({ frames := 6, cells := 0, slots := 0, locals := 139 } : Room) (va_Pc [.ref v0] (zP D ca A σ)) (zQi r0 D ca A σ') 0 0 A := by
  refine zMk (by decide +kernel) (Nat.le_of_ble_eq_true rfl) ?_
  intro p e s m below meth c C0 hr hlocks hin hW ls hl
  have hx := C0.1
  have hb := C0.2.1
  have hS : va_S A s.heap s.heap [] := va_S.rf
  have hl : lv_has ls 6 [(0, .ref v0)] := hl
  unfold m_X9_command at hm
  refine lv_aload_n hx hb dX9_command_0 rfl (lv_at hl 0 rfl) ?_
  replace hm := ob hm; obtain ⟨u1, e2, hm⟩ := hm
  replace hm := ob hm; obtain ⟨x4, e3, hm⟩ := hm
  refine z_calli (z_runV (As := []) (rest := []) (ci := 9) rfl rfl C0 lv_X9_203 (b_X9_here e3) hW hS e2 rfl hl.1 rfl (Nat.le_of_ble_eq_true rfl) dX9_command_1 rfl rfl ⟨Nat.le_of_ble_eq_true rfl, Nat.le_of_ble_eq_true rfl⟩ ⟨Nat.le_refl _, Nat.le_refl _⟩) hS (fun H locs hW hS => ?_)
  refine lv_istore_n (lv' := [(1, .int x4), (0, .ref v0)]) hx hb dX9_command_4 rfl hl (by decide) rfl (fun ls hl => ?_)
  refine lv_aload_n hx hb dX9_command_5 rfl (lv_at hl 1 rfl) ?_
  refine lv_iload_n hx hb dX9_command_6 rfl (lv_at hl 0 rfl) ?_
  refine lv_bipush (v := 107) hx hb dX9_command_7 (by decide) ?_
  replace hm := ob hm; obtain ⟨y11, e87, hm⟩ := hm
  have J41_5 : ∀ (H : Heap) (locs : List Loc) (ls : Array Slot), zW D ca A σ H → va_S A s.heap H locs → lv_has ls 6 [(1, .int x4), (0, .ref v0)] → W p l e ({ frames := 6, cells := 0, slots := 0, locals := 139 } : Room) s m (List.toArray [.ref v0]) below meth c H locs 0 0 (MQ below (zQi r0 D ca A σ') (List.toArray [.ref v0]) s 0 0 A) (F0 m 41 ls [.int y11, .ref v0]) := by
    intro H locs ls hW hS hl
    replace hm := ob hm; obtain ⟨x14, e15, hm⟩ := hm
    replace hm := ob hm; obtain ⟨σ12, e13, hm⟩ := hm
    refine r_putZ C0 hW hS fl_X9_199 e15 e13 dX9_command_41 (fun H locs hW hS => ?_)
    refine lv_aload_n hx hb dX9_command_44 rfl (lv_at hl 1 rfl) ?_
    refine lv_iload_n hx hb dX9_command_45 rfl (lv_at hl 0 rfl) ?_
    replace hm := ob hm; obtain ⟨u16, e17, hm⟩ := hm
    replace hm := o2 hm; obtain ⟨x20, σ19, e18, hm⟩ := hm
    refine z_calli (z_runV (As := [.int x4]) (rest := []) (ci := 9) rfl rfl C0 lv_X9_209 (b_X9_number e18) hW hS e17 rfl hl.1 rfl (Nat.le_of_ble_eq_true rfl) dX9_command_46 rfl rfl ⟨Nat.le_of_ble_eq_true rfl, Nat.le_of_ble_eq_true rfl⟩ ⟨Nat.le_refl _, Nat.le_refl _⟩) hS (fun H locs hW hS => ?_)
    refine lv_istore_n (lv' := [(2, .int x20), (1, .int x4), (0, .ref v0)]) hx hb dX9_command_49 rfl hl (by decide) rfl (fun ls hl => ?_)
    refine lv_iload_n hx hb dX9_command_50 rfl (lv_at hl 1 rfl) ?_
    refine lv_bipush (v := 122) hx hb dX9_command_51 (by decide) ?_
    replace hm := o2 hm; obtain ⟨y28, σ29, e86, hm⟩ := hm
    have J66_21 : ∀ (H : Heap) (locs : List Loc) (ls : Array Slot), zW D ca A σ29 H → va_S A s.heap H locs → lv_has ls 6 [(2, .int x20), (1, .int x4), (0, .ref v0)] → W p l e ({ frames := 6, cells := 0, slots := 0, locals := 139 } : Room) s m (List.toArray [.ref v0]) below meth c H locs 0 0 (MQ below (zQi r0 D ca A σ') (List.toArray [.ref v0]) s 0 0 A) (F0 m 66 ls [.int y28]) := by
      intro H locs ls hW hS hl
      refine lv_istore_n (lv' := [(3, .int y28), (2, .int x20), (1, .int x4), (0, .ref v0)]) hx hb dX9_command_66 rfl hl (by decide) rfl (fun ls hl => ?_)
      refine lv_iload_n hx hb dX9_command_67 rfl (lv_at hl 2 rfl) ?_
      refine lv_bipush (v := 115) hx hb dX9_command_68 (by decide) ?_
      replace hm := o2 hm; obtain ⟨y37, σ38, e85, hm⟩ := hm
      have J83_30 : ∀ (H : Heap) (locs : List Loc) (ls : Array Slot), zW D ca A σ38 H → va_S A s.heap H locs → lv_has ls 6 [(3, .int y28), (2, .int x20), (1, .int x4), (0, .ref v0)] → W p l e ({ frames := 6, cells := 0, slots := 0, locals := 139 } : Room) s m (List.toArray [.ref v0]) below meth c H locs 0 0 (MQ below (zQi r0 D ca A σ') (List.toArray [.ref v0]) s 0 0 A) (F0 m 83 ls [.int y37]) := by
        intro H locs ls hW hS hl
        refine lv_istore (lv' := [(4, .int y37), (3, .int y28), (2, .int x20), (1, .int x4), (0, .ref v0)]) hx hb dX9_command_83 hl (by decide) rfl (fun ls hl => ?_)
        refine lv_iload_n hx hb dX9_command_85 rfl (lv_at hl 3 rfl) ?_
        refine lv_bipush (v := 115) hx hb dX9_command_86 (by decide) ?_
        replace hm := o2 hm; obtain ⟨y46, σ47, e84, hm⟩ := hm
        have J101_39 : ∀ (H : Heap) (locs : List Loc) (ls : Array Slot), zW D ca A σ47 H → va_S A s.heap H locs → lv_has ls 6 [(4, .int y37), (3, .int y28), (2, .int x20), (1, .int x4), (0, .ref v0)] → W p l e ({ frames := 6, cells := 0, slots := 0, locals := 139 } : Room) s m (List.toArray [.ref v0]) below meth c H locs 0 0 (MQ below (zQi r0 D ca A σ') (List.toArray [.ref v0]) s 0 0 A) (F0 m 101 ls [.int y46]) := by
          intro H locs ls hW hS hl
          refine lv_istore (lv' := [(5, .int y46), (4, .int y37), (3, .int y28), (2, .int x20), (1, .int x4), (0, .ref v0)]) hx hb dX9_command_101 hl (by decide) rfl (fun ls hl => ?_)
          refine lv_aload_n hx hb dX9_command_103 rfl (lv_at hl 5 rfl) ?_
          refine lv_bipush (v := 59) hx hb dX9_command_104 (by decide) ?_
          replace hm := ob hm; obtain ⟨u48, e49, hm⟩ := hm
          replace hm := ob hm; obtain ⟨σ51, e50, hm⟩ := hm
          refine z_callv (z_runV (As := [.int 59]) (rest := []) (ci := 9) rfl rfl C0 lv_X9_206 (b_X9_must e50) hW hS e49 rfl hl.1 rfl (Nat.le_of_ble_eq_true rfl) dX9_command_106 rfl rfl ⟨Nat.le_of_ble_eq_true rfl, Nat.le_of_ble_eq_true rfl⟩ ⟨Nat.le_refl _, Nat.le_refl _⟩) hS (fun H locs hW hS => ?_)
          refine lv_aload_n hx hb dX9_command_109 rfl (lv_at hl 5 rfl) ?_
          replace hm := ob hm; obtain ⟨x52, e53, hm⟩ := hm
          refine r_getI C0 hW fl_X9_199 e53 dX9_command_110 ?_
          refine lv_if_ne (tgt := 118) hx hb dX9_command_113 (by decide) (fun h54 => ?_) (fun h54 => ?_)
          · rw [if_neg h54] at hm
            refine lv_iload_n hx hb dX9_command_118 rfl (lv_at hl 4 rfl) ?_
            by_cases h55 : x4 = 97
            · rw [if_pos h55] at hm
              refine z_top (congrArg some h55) ?_
              refine lv_lookup (tgt := 167) hx hb dX9_command_119 (by decide) rfl (by decide) ?_
              refine lv_aload_n hx hb dX9_command_167 rfl (lv_at hl 5 rfl) ?_
              refine lv_iload_n hx hb dX9_command_168 rfl (lv_at hl 3 rfl) ?_
              refine lv_iload_n hx hb dX9_command_169 rfl (lv_at hl 2 rfl) ?_
              refine lv_iconst (v := 0) hx hb dX9_command_170 (by decide) ?_
              refine lv_iconst (v := 1) hx hb dX9_command_171 (by decide) ?_
              replace hm := ob hm; obtain ⟨u56, e57, hm⟩ := hm
              replace hm := o2 hm; obtain ⟨x60, σ59, e58, hm⟩ := hm
              refine z_calli (z_runV (As := [.int x20, .int y28, .int 0, .int 1]) (rest := []) (ci := 9) rfl rfl C0 lv_X9_147 (b_X9_seesRow e58) hW hS e57 rfl hl.1 rfl (Nat.le_of_ble_eq_true rfl) dX9_command_172 rfl rfl ⟨Nat.le_of_ble_eq_true rfl, Nat.le_of_ble_eq_true rfl⟩ ⟨Nat.le_refl _, Nat.le_refl _⟩) hS (fun H locs hW hS => ?_)
              obtain ⟨hq8, hq9⟩ := Prod.mk.inj (Option.some.inj hm); subst hq8; subst hq9
              exact r_iret C0 hr hlocks hW hS dX9_command_175
            · rw [if_neg h55] at hm
              by_cases h61 : x4 = 107
              · rw [if_pos h61] at hm
                refine z_top (congrArg some h61) ?_
                refine lv_lookup (tgt := 160) hx hb dX9_command_119 (by decide) rfl (by decide) ?_
                refine lv_aload_n hx hb dX9_command_160 rfl (lv_at hl 5 rfl) ?_
                refine lv_iload_n hx hb dX9_command_161 rfl (lv_at hl 3 rfl) ?_
                refine lv_iload_n hx hb dX9_command_162 rfl (lv_at hl 2 rfl) ?_
                replace hm := ob hm; obtain ⟨u62, e63, hm⟩ := hm
                replace hm := o2 hm; obtain ⟨x66, σ65, e64, hm⟩ := hm
                refine z_calli (z_runV (As := [.int x20, .int y28]) (rest := []) (ci := 9) rfl rfl C0 lv_X9_141 (b_X9_makeTable e64) hW hS e63 rfl hl.1 rfl (Nat.le_of_ble_eq_true rfl) dX9_command_163 rfl rfl ⟨Nat.le_of_ble_eq_true rfl, Nat.le_of_ble_eq_true rfl⟩ ⟨Nat.le_refl _, Nat.le_refl _⟩) hS (fun H locs hW hS => ?_)
                obtain ⟨hq8, hq9⟩ := Prod.mk.inj (Option.some.inj hm); subst hq8; subst hq9
                exact r_iret C0 hr hlocks hW hS dX9_command_166
              · rw [if_neg h61] at hm
                by_cases h67 : x4 = 109
                · rw [if_pos h67] at hm
                  refine z_top (congrArg some h67) ?_
                  refine lv_lookup (tgt := 187) hx hb dX9_command_119 (by decide) rfl (by decide) ?_
                  refine lv_aload_n hx hb dX9_command_187 rfl (lv_at hl 5 rfl) ?_
                  refine lv_iload_n hx hb dX9_command_188 rfl (lv_at hl 3 rfl) ?_
                  refine lv_iload_n hx hb dX9_command_189 rfl (lv_at hl 2 rfl) ?_
                  replace hm := ob hm; obtain ⟨u68, e69, hm⟩ := hm
                  replace hm := o2 hm; obtain ⟨x72, σ71, e70, hm⟩ := hm
                  refine z_calli (z_runV (As := [.int x20, .int y28]) (rest := []) (ci := 9) rfl rfl C0 lv_X9_151 (b_X9_mergesInto e70) hW hS e69 rfl hl.1 rfl (Nat.le_of_ble_eq_true rfl) dX9_command_190 rfl rfl ⟨Nat.le_of_ble_eq_true rfl, Nat.le_of_ble_eq_true rfl⟩ ⟨Nat.le_refl _, Nat.le_refl _⟩) hS (fun H locs hW hS => ?_)
                  obtain ⟨hq8, hq9⟩ := Prod.mk.inj (Option.some.inj hm); subst hq8; subst hq9
                  exact r_iret C0 hr hlocks hW hS dX9_command_193
                · rw [if_neg h67] at hm
                  by_cases h73 : x4 = 115
                  · rw [if_pos h73] at hm
                    refine z_top (congrArg some h73) ?_
                    refine lv_lookup (tgt := 176) hx hb dX9_command_119 (by decide) rfl (by decide) ?_
                    refine lv_aload_n hx hb dX9_command_176 rfl (lv_at hl 5 rfl) ?_
                    refine lv_iload_n hx hb dX9_command_177 rfl (lv_at hl 3 rfl) ?_
                    refine lv_iload_n hx hb dX9_command_178 rfl (lv_at hl 2 rfl) ?_
                    refine lv_iload hx hb dX9_command_179 (lv_at hl 1 rfl) ?_
                    refine lv_iload hx hb dX9_command_181 (lv_at hl 0 rfl) ?_
                    replace hm := ob hm; obtain ⟨u74, e75, hm⟩ := hm
                    replace hm := o2 hm; obtain ⟨x78, σ77, e76, hm⟩ := hm
                    refine z_calli (z_runV (As := [.int x20, .int y28, .int y37, .int y46]) (rest := []) (ci := 9) rfl rfl C0 lv_X9_147 (b_X9_seesRow e76) hW hS e75 rfl hl.1 rfl (Nat.le_of_ble_eq_true rfl) dX9_command_183 rfl rfl ⟨Nat.le_of_ble_eq_true rfl, Nat.le_of_ble_eq_true rfl⟩ ⟨Nat.le_refl _, Nat.le_refl _⟩) hS (fun H locs hW hS => ?_)
                    obtain ⟨hq8, hq9⟩ := Prod.mk.inj (Option.some.inj hm); subst hq8; subst hq9
                    exact r_iret C0 hr hlocks hW hS dX9_command_186
                  · rw [if_neg h73] at hm
                    refine lv_lookup (tgt := 194) (off := 75) hx hb dX9_command_119 (by decide) (show Op.lookupswitch.offset [(97, 48), (107, 41), (109, 68), (115, 57)] 75 _ = 75 from (lv_osw h55 (by decide)).trans ((lv_osw h61 (by decide)).trans ((lv_osw h67 (by decide)).trans ((lv_osw h73 (by decide)).trans (rfl))))) (by decide) ?_
                    refine lv_aload_n hx hb dX9_command_194 rfl (lv_at hl 5 rfl) ?_
                    refine lv_iload_n hx hb dX9_command_195 rfl (lv_at hl 3 rfl) ?_
                    replace hm := ob hm; obtain ⟨u79, e80, hm⟩ := hm
                    replace hm := o2 hm; obtain ⟨x83, σ82, e81, hm⟩ := hm
                    refine z_calli (z_runV (As := [.int x20]) (rest := []) (ci := 9) rfl rfl C0 lv_X9_154 (b_X9_resetsOne e81) hW hS e80 rfl hl.1 rfl (Nat.le_of_ble_eq_true rfl) dX9_command_196 rfl rfl ⟨Nat.le_of_ble_eq_true rfl, Nat.le_of_ble_eq_true rfl⟩ ⟨Nat.le_refl _, Nat.le_refl _⟩) hS (fun H locs hW hS => ?_)
                    obtain ⟨hq8, hq9⟩ := Prod.mk.inj (Option.some.inj hm); subst hq8; subst hq9
                    exact r_iret C0 hr hlocks hW hS dX9_command_199
          · rw [if_pos h54] at hm
            refine lv_iconst (v := 0) hx hb dX9_command_116 (by decide) ?_
            obtain ⟨hq8, hq9⟩ := Prod.mk.inj (Option.some.inj hm); subst hq8; subst hq9
            exact r_iret C0 hr hlocks hW hS dX9_command_117
        clear hm
        have hm := e84
        clear e84
        refine lv_icmp_ne (tgt := 100) hx hb dX9_command_88 (by decide) (fun h39 => ?_) (fun h39 => ?_)
        · rw [if_neg h39] at hm
          refine lv_iconst (v := 0) hx hb dX9_command_100 (by decide) ?_
          obtain ⟨hq1, hq2⟩ := Prod.mk.inj (Option.some.inj hm); subst hq1; subst hq2
          exact J101_39 _ _ _ hW hS (lv_sub hl [0, 1, 2, 3, 4] rfl)
        · rw [if_pos h39] at hm
          refine lv_aload_n hx hb dX9_command_91 rfl (lv_at hl 4 rfl) ?_
          refine lv_bipush (v := 44) hx hb dX9_command_92 (by decide) ?_
          replace hm := ob hm; obtain ⟨u41, e42, hm⟩ := hm
          replace hm := o2 hm; obtain ⟨x45, σ44, e43, hm⟩ := hm
          refine z_calli (z_runV (As := [.int 44]) (rest := []) (ci := 9) rfl rfl C0 lv_X9_209 (b_X9_number e43) hW hS e42 rfl hl.1 rfl (Nat.le_of_ble_eq_true rfl) dX9_command_94 rfl rfl ⟨Nat.le_of_ble_eq_true rfl, Nat.le_of_ble_eq_true rfl⟩ ⟨Nat.le_refl _, Nat.le_refl _⟩) hS (fun H locs hW hS => ?_)
          refine lv_goto (tgt := 101) hx hb dX9_command_97 (by decide) ?_
          obtain ⟨hq1, hq2⟩ := Prod.mk.inj (Option.some.inj hm); subst hq1; subst hq2
          exact J101_39 _ _ _ hW hS (lv_sub hl [0, 1, 2, 3, 4] rfl)
      clear hm
      have hm := e85
      clear e85
      refine lv_icmp_ne (tgt := 82) hx hb dX9_command_70 (by decide) (fun h30 => ?_) (fun h30 => ?_)
      · rw [if_neg h30] at hm
        refine lv_iconst (v := 0) hx hb dX9_command_82 (by decide) ?_
        obtain ⟨hq1, hq2⟩ := Prod.mk.inj (Option.some.inj hm); subst hq1; subst hq2
        exact J83_30 _ _ _ hW hS (lv_sub hl [0, 1, 2, 3] rfl)
      · rw [if_pos h30] at hm
        refine lv_aload_n hx hb dX9_command_73 rfl (lv_at hl 3 rfl) ?_
        refine lv_bipush (v := 44) hx hb dX9_command_74 (by decide) ?_
        replace hm := ob hm; obtain ⟨u32, e33, hm⟩ := hm
        replace hm := o2 hm; obtain ⟨x36, σ35, e34, hm⟩ := hm
        refine z_calli (z_runV (As := [.int 44]) (rest := []) (ci := 9) rfl rfl C0 lv_X9_209 (b_X9_number e34) hW hS e33 rfl hl.1 rfl (Nat.le_of_ble_eq_true rfl) dX9_command_76 rfl rfl ⟨Nat.le_of_ble_eq_true rfl, Nat.le_of_ble_eq_true rfl⟩ ⟨Nat.le_refl _, Nat.le_refl _⟩) hS (fun H locs hW hS => ?_)
        refine lv_goto (tgt := 83) hx hb dX9_command_79 (by decide) ?_
        obtain ⟨hq1, hq2⟩ := Prod.mk.inj (Option.some.inj hm); subst hq1; subst hq2
        exact J83_30 _ _ _ hW hS (lv_sub hl [0, 1, 2, 3] rfl)
    clear hm
    have hm := e86
    clear e86
    refine lv_icmp_ne (tgt := 60) hx hb dX9_command_53 (by decide) (fun h21 => ?_) (fun h21 => ?_)
    · rw [if_neg h21] at hm
      refine lv_aload_n hx hb dX9_command_60 rfl (lv_at hl 2 rfl) ?_
      refine lv_bipush (v := 44) hx hb dX9_command_61 (by decide) ?_
      replace hm := ob hm; obtain ⟨u23, e24, hm⟩ := hm
      replace hm := o2 hm; obtain ⟨x27, σ26, e25, hm⟩ := hm
      refine z_calli (z_runV (As := [.int 44]) (rest := []) (ci := 9) rfl rfl C0 lv_X9_209 (b_X9_number e25) hW hS e24 rfl hl.1 rfl (Nat.le_of_ble_eq_true rfl) dX9_command_63 rfl rfl ⟨Nat.le_of_ble_eq_true rfl, Nat.le_of_ble_eq_true rfl⟩ ⟨Nat.le_refl _, Nat.le_refl _⟩) hS (fun H locs hW hS => ?_)
      obtain ⟨hq1, hq2⟩ := Prod.mk.inj (Option.some.inj hm); subst hq1; subst hq2
      exact J66_21 _ _ _ hW hS (lv_sub hl [0, 1, 2] rfl)
    · rw [if_pos h21] at hm
      refine lv_iconst (v := 0) hx hb dX9_command_56 (by decide) ?_
      refine lv_goto (tgt := 66) hx hb dX9_command_57 (by decide) ?_
      obtain ⟨hq1, hq2⟩ := Prod.mk.inj (Option.some.inj hm); subst hq1; subst hq2
      exact J66_21 _ _ _ hW hS (lv_sub hl [0, 1, 2] rfl)
  clear hm
  have hm := e87
  clear e87
  refine lv_icmp_eq (tgt := 36) hx hb dX9_command_9 (by decide) (fun h5 => ?_) (fun h5 => ?_)
  · rw [if_pos h5] at hm
    refine lv_iconst (v := 1) hx hb dX9_command_36 (by decide) ?_
    refine lv_goto (tgt := 41) hx hb dX9_command_37 (by decide) ?_
    have hq1 := Option.some.inj hm; subst hq1
    exact J41_5 _ _ _ hW hS (lv_sub hl [0, 1] rfl)
  · rw [if_neg h5] at hm
    refine lv_iload_n hx hb dX9_command_12 rfl (lv_at hl 0 rfl) ?_
    refine lv_bipush (v := 97) hx hb dX9_command_13 (by decide) ?_
    refine lv_icmp_eq (tgt := 36) hx hb dX9_command_15 (by decide) (fun h7 => ?_) (fun h7 => ?_)
    · rw [if_pos h7] at hm
      refine lv_iconst (v := 1) hx hb dX9_command_36 (by decide) ?_
      refine lv_goto (tgt := 41) hx hb dX9_command_37 (by decide) ?_
      have hq1 := Option.some.inj hm; subst hq1
      exact J41_5 _ _ _ hW hS (lv_sub hl [0, 1] rfl)
    · rw [if_neg h7] at hm
      refine lv_iload_n hx hb dX9_command_18 rfl (lv_at hl 0 rfl) ?_
      refine lv_bipush (v := 115) hx hb dX9_command_19 (by decide) ?_
      refine lv_icmp_eq (tgt := 36) hx hb dX9_command_21 (by decide) (fun h8 => ?_) (fun h8 => ?_)
      · rw [if_pos h8] at hm
        refine lv_iconst (v := 1) hx hb dX9_command_36 (by decide) ?_
        refine lv_goto (tgt := 41) hx hb dX9_command_37 (by decide) ?_
        have hq1 := Option.some.inj hm; subst hq1
        exact J41_5 _ _ _ hW hS (lv_sub hl [0, 1] rfl)
      · rw [if_neg h8] at hm
        refine lv_iload_n hx hb dX9_command_24 rfl (lv_at hl 0 rfl) ?_
        refine lv_bipush (v := 109) hx hb dX9_command_25 (by decide) ?_
        refine lv_icmp_eq (tgt := 36) hx hb dX9_command_27 (by decide) (fun h9 => ?_) (fun h9 => ?_)
        · rw [if_pos h9] at hm
          refine lv_iconst (v := 1) hx hb dX9_command_36 (by decide) ?_
          refine lv_goto (tgt := 41) hx hb dX9_command_37 (by decide) ?_
          have hq1 := Option.some.inj hm; subst hq1
          exact J41_5 _ _ _ hW hS (lv_sub hl [0, 1] rfl)
        · rw [if_neg h9] at hm
          refine lv_iload_n hx hb dX9_command_30 rfl (lv_at hl 0 rfl) ?_
          refine lv_bipush (v := 122) hx hb dX9_command_31 (by decide) ?_
          refine lv_icmp_ne (tgt := 40) hx hb dX9_command_33 (by decide) (fun h10 => ?_) (fun h10 => ?_)
          · rw [if_neg h10] at hm
            refine lv_iconst (v := 0) hx hb dX9_command_40 (by decide) ?_
            have hq1 := Option.some.inj hm; subst hq1
            exact J41_5 _ _ _ hW hS (lv_sub hl [0, 1] rfl)
          · rw [if_pos h10] at hm
            refine lv_iconst (v := 1) hx hb dX9_command_36 (by decide) ?_
            refine lv_goto (tgt := 41) hx hb dX9_command_37 (by decide) ?_
            have hq1 := Option.some.inj hm; subst hq1
            exact J41_5 _ _ _ hW hS (lv_sub hl [0, 1] rfl)
set_option maxHeartbeats 4000000 in
set_option maxRecDepth 100000 in
theorem w_X9_couldHave_L28 {p : Program} {l : Launch} {e : Env} {s : State} {m : MethodId} {args : Array Value} {below : List Frame} {meth : Method} {c : Code} {D : va_G} {ca : Nat → ClassId} {A : Nat → Prop} {Q : State → Prop} (N : Nat) : ∀ (n : Nat) {σ : zS} {v0 : Nat} {v1 : Int32} {v3 : Int32} {v4 : Int32} {y3 : Int32} {H : Heap} {locs : List Loc} {ls : Array Slot}, m_X9_couldHave_L28 N n σ v0 v1 v3 v4 = some y3 → zC p s m args c RX9 cX9_couldHave 5 D ca A → zW D ca A σ H → va_S A s.heap H locs → lv_has ls 5 [(0, .ref v0), (1, .int v1), (3, .int v3), (4, .int v4)] → (∀ (H : Heap) (locs : List Loc) (ls : Array Slot), zW D ca A σ H → va_S A s.heap H locs → lv_has ls 5 [(3, .int y3)] → W p l e ({ frames := 2, cells := 0, slots := 0, locals := 48 } : Room) s m args below meth c H locs 0 0 Q (F0 m 73 ls [])) → W p l e ({ frames := 2, cells := 0, slots := 0, locals := 48 } : Room) s m args below meth c H locs 0 0 Q (F0 m 28 ls []) := by
  intro n
  induction n with
  | zero =>
    intro σ v0 v1 v3 v4 y3 H locs ls hm C0 hW hS hl kk
    rw [m_X9_couldHave_L28] at hm
    cases hm
  | succ n ih =>
    intro σ v0 v1 v3 v4 y3 H locs ls hm C0 hW hS hl kk
    rw [m_X9_couldHave_L28] at hm
    have hx := C0.1
    have hb := C0.2.1
    refine lv_iload hx hb dX9_couldHave_28 (lv_at hl 3 rfl) ?_
    refine lv_bipush (v := 22) hx hb dX9_couldHave_30 (by decide) ?_
    refine lv_icmp_ge (tgt := 73) hx hb dX9_couldHave_32 (by decide) (fun h15 => ?_) (fun h15 => ?_)
    · rw [if_pos h15] at hm
      cases hm
      exact kk _ _ _ hW hS (lv_sub hl [2] rfl)
    · rw [if_neg h15] at hm
      refine lv_iload_n hx hb dX9_couldHave_35 rfl (lv_at hl 2 rfl) ?_
      replace hm := ob hm; obtain ⟨y27, e30, hm⟩ := hm
      have J66_16 : ∀ (H : Heap) (locs : List Loc) (ls : Array Slot), zW D ca A σ H → va_S A s.heap H locs → lv_has ls 5 [(0, .ref v0), (1, .int v1), (4, .int v4)] → W p l e ({ frames := 2, cells := 0, slots := 0, locals := 48 } : Room) s m args below meth c H locs 0 0 Q (F0 m 66 ls [.int y27]) := by
        intro H locs ls hW hS hl
        refine lv_istore_n (lv' := [(3, .int y27), (0, .ref v0), (1, .int v1), (4, .int v4)]) hx hb dX9_couldHave_66 rfl hl (by decide) rfl (fun ls hl => ?_)
        replace hm := ob hm; obtain ⟨x28, e29, hm⟩ := hm
        refine lv_iinc (v := x28) (lv' := [(4, .int x28), (3, .int y27), (0, .ref v0), (1, .int v1)]) hx hb dX9_couldHave_67 hl (k := 3) rfl (Option.some.inj e29) (by decide) rfl (fun ls hl => ?_)
        refine lv_goto (tgt := 28) hx hb dX9_couldHave_70 (by decide) ?_
        exact ih hm C0 hW hS (lv_sub hl [2, 3, 1, 0] rfl) kk
      clear hm
      have hm := e30
      clear e30
      refine lv_if_eq (tgt := 65) hx hb dX9_couldHave_36 (by decide) (fun h16 => ?_) (fun h16 => ?_)
      · rw [if_pos h16] at hm
        refine lv_iconst (v := 0) hx hb dX9_couldHave_65 (by decide) ?_
        have hq1 := Option.some.inj hm; subst hq1
        exact J66_16 _ _ _ hW hS (lv_sub hl [0, 1, 3] rfl)
      · rw [if_neg h16] at hm
        refine lv_aload_n hx hb dX9_couldHave_39 rfl (lv_at hl 0 rfl) ?_
        replace hm := ob hm; obtain ⟨a18, e19, hm⟩ := hm
        refine r_getA C0 hW fl_X9_28 e19 dX9_couldHave_40 ?_
        refine lv_iload hx hb dX9_couldHave_43 (lv_at hl 3 rfl) ?_
        replace hm := ob hm; obtain ⟨x20, e21, hm⟩ := hm
        refine r_aI C0 hW e21 dX9_couldHave_45 ?_
        refine lv_aload_n hx hb dX9_couldHave_46 rfl (lv_at hl 0 rfl) ?_
        replace hm := ob hm; obtain ⟨a22, e23, hm⟩ := hm
        refine r_getA C0 hW fl_X9_7 e23 dX9_couldHave_47 ?_
        refine lv_bipush (v := 23) hx hb dX9_couldHave_50 (by decide) ?_
        refine lv_iload_n hx hb dX9_couldHave_52 rfl (lv_at hl 1 rfl) ?_
        refine lv_imul hx hb dX9_couldHave_53 ?_
        refine lv_iload hx hb dX9_couldHave_54 (lv_at hl 3 rfl) ?_
        refine lv_iadd hx hb dX9_couldHave_56 ?_
        replace hm := ob hm; obtain ⟨x24, e25, hm⟩ := hm
        refine r_aI C0 hW e25 dX9_couldHave_57 ?_
        refine lv_icmp_ne (tgt := 65) hx hb dX9_couldHave_58 (by decide) (fun h26 => ?_) (fun h26 => ?_)
        · rw [if_neg h26] at hm
          refine lv_iconst (v := 0) hx hb dX9_couldHave_65 (by decide) ?_
          have hq1 := Option.some.inj hm; subst hq1
          exact J66_16 _ _ _ hW hS (lv_sub hl [0, 1, 3] rfl)
        · rw [if_pos h26] at hm
          refine lv_iconst (v := 1) hx hb dX9_couldHave_61 (by decide) ?_
          refine lv_goto (tgt := 66) hx hb dX9_couldHave_62 (by decide) ?_
          have hq1 := Option.some.inj hm; subst hq1
          exact J66_16 _ _ _ hW hS (lv_sub hl [0, 1, 3] rfl)
set_option maxHeartbeats 4000000 in
set_option maxRecDepth 100000 in
theorem b_X9_couldHave {l : Launch} {D : va_G} {ca : Nat → ClassId} {A : Nat → Prop} {N : Nat} {σ : zS} {v0 : Nat} {v1 : Int32} {v2 : Int32} {r0 : Int32} {σ' : zS} (hm : m_X9_couldHave N σ v0 v1 v2 = some (r0, σ')) : Met l yX9_couldHave (.code yX9_couldHave cX9_couldHave 5 (some .boolean) :: wsL_law) ({ frames := 2, cells := 0, slots := 0, locals := 48 } : Room) (va_Pc [.ref v0, .int v1, .int v2] (zP D ca A σ)) (zQi r0 D ca A σ') 0 0 A := by
  refine zMk (by decide +kernel) (Nat.le_of_ble_eq_true rfl) ?_
  intro p e s m below meth c C0 hr hlocks hin hW ls hl
  have hx := C0.1
  have hb := C0.2.1
  have hS : va_S A s.heap s.heap [] := va_S.rf
  have hl : lv_has ls 5 [(0, .ref v0), (1, .int v1), (2, .int v2)] := hl
  unfold m_X9_couldHave at hm
  refine lv_aload_n hx hb dX9_couldHave_0 rfl (lv_at hl 0 rfl) ?_
  refine lv_iload_n hx hb dX9_couldHave_1 rfl (lv_at hl 1 rfl) ?_
  replace hm := ob hm; obtain ⟨u1, e2, hm⟩ := hm
  replace hm := ob hm; obtain ⟨σ4, e3, hm⟩ := hm
  refine z_callv (z_runV (As := [.int v1]) (rest := []) (ci := 9) rfl rfl C0 lv_X9_160 (b_X9_laysMix e3) hW hS e2 rfl hl.1 rfl (Nat.le_of_ble_eq_true rfl) dX9_couldHave_2 rfl rfl ⟨Nat.le_of_ble_eq_true rfl, Nat.le_of_ble_eq_true rfl⟩ ⟨Nat.le_refl _, Nat.le_refl _⟩) hS (fun H locs hW hS => ?_)
  refine lv_aload_n hx hb dX9_couldHave_5 rfl (lv_at hl 0 rfl) ?_
  replace hm := ob hm; obtain ⟨a5, e6, hm⟩ := hm
  refine r_getA C0 hW fl_X9_28 e6 dX9_couldHave_6 ?_
  refine lv_iconst (v := 0) hx hb dX9_couldHave_9 (by decide) ?_
  refine lv_iload_n hx hb dX9_couldHave_10 rfl (lv_at hl 2 rfl) ?_
  refine lv_aload_n hx hb dX9_couldHave_11 rfl (lv_at hl 0 rfl) ?_
  replace hm := ob hm; obtain ⟨a7, e8, hm⟩ := hm
  refine r_getA C0 hW fl_X9_28 e8 dX9_couldHave_12 ?_
  refine lv_iconst (v := 1) hx hb dX9_couldHave_15 (by decide) ?_
  replace hm := ob hm; obtain ⟨x9, e10, hm⟩ := hm
  refine r_aI C0 hW e10 dX9_couldHave_16 ?_
  replace hm := ob hm; obtain ⟨x12, e11, hm⟩ := hm
  refine z_calli (z_runS (As := [.int v2, .int x9]) (rest := [.int 0, .ref a5]) C0 ls_X9_107 (b_X9_hashOf e11) hW hS rfl hl.1 rfl (Nat.le_of_ble_eq_true rfl) dX9_couldHave_17 rfl rfl ⟨Nat.le_of_ble_eq_true rfl, Nat.le_of_ble_eq_true rfl⟩ ⟨Nat.le_refl _, Nat.le_refl _⟩) hS (fun H locs hW hS => ?_)
  replace hm := ob hm; obtain ⟨σ14, e13, hm⟩ := hm
  refine z_callv (z_runS (As := [.ref a5, .int 0, .int x12]) (rest := []) C0 ls_X9_110 (b_X9_keeps e13) hW hS rfl hl.1 rfl (Nat.le_of_ble_eq_true rfl) dX9_couldHave_20 rfl rfl ⟨Nat.le_of_ble_eq_true rfl, Nat.le_of_ble_eq_true rfl⟩ ⟨Nat.le_refl _, Nat.le_refl _⟩) hS (fun H locs hW hS => ?_)
  refine lv_iconst (v := 1) hx hb dX9_couldHave_23 (by decide) ?_
  refine lv_istore_n (lv' := [(3, .int 1), (0, .ref v0), (1, .int v1), (2, .int v2)]) hx hb dX9_couldHave_24 rfl hl (by decide) rfl (fun ls hl => ?_)
  refine lv_iconst (v := 4) hx hb dX9_couldHave_25 (by decide) ?_
  refine lv_istore (lv' := [(4, .int 4), (3, .int 1), (0, .ref v0), (1, .int v1), (2, .int v2)]) hx hb dX9_couldHave_26 hl (by decide) rfl (fun ls hl => ?_)
  replace hm := ob hm; obtain ⟨y31, e32, hm⟩ := hm
  refine w_X9_couldHave_L28 N N e32 C0 hW hS (lv_sub hl [2, 3, 1, 0] rfl) (fun H locs ls hW hS hl => ?_)
  refine lv_iload_n hx hb dX9_couldHave_73 rfl (lv_at hl 0 rfl) ?_
  replace hm := ob hm; obtain ⟨x33, e34, hm⟩ := hm
  obtain ⟨hq, hq2⟩ := nar_z e34
  rw [hq]
  obtain ⟨hq8, hq9⟩ := Prod.mk.inj (Option.some.inj hm); subst hq8; subst hq9
  exact r_zret C0 hr hq2 hlocks hW hS dX9_couldHave_74
set_option maxHeartbeats 4000000 in
set_option maxRecDepth 100000 in
theorem w_X9_seenBy_L17 {p : Program} {l : Launch} {e : Env} {s : State} {m : MethodId} {args : Array Value} {below : List Frame} {meth : Method} {c : Code} {D : va_G} {ca : Nat → ClassId} {A : Nat → Prop} {Q : State → Prop} (N : Nat) : ∀ (n : Nat) {σ : zS} {v0 : Nat} {v1 : Int32} {v2 : Int32} {v3 : Int32} {v4 : Int32} {v5 : Int32} {y4 : Int32} {H : Heap} {locs : List Loc} {ls : Array Slot}, m_X9_seenBy_L17 N n σ v0 v1 v2 v3 v4 v5 = some y4 → zC p s m args c RX9 cX9_seenBy 6 D ca A → zW D ca A σ H → va_S A s.heap H locs → lv_has ls 6 [(0, .ref v0), (1, .int v1), (2, .int v2), (3, .int v3), (4, .int v4), (5, .int v5)] → (∀ (H : Heap) (locs : List Loc) (ls : Array Slot), zW D ca A σ H → va_S A s.heap H locs → lv_has ls 6 [(0, .ref v0), (1, .int v1), (2, .int v2), (3, .int v3), (4, .int y4)] → W p l e ({ frames := 0, cells := 0, slots := 0, locals := 0 } : Room) s m args below meth c H locs 0 0 Q (F0 m 66 ls [])) → W p l e ({ frames := 0, cells := 0, slots := 0, locals := 0 } : Room) s m args below meth c H locs 0 0 Q (F0 m 17 ls []) := by
  intro n
  induction n with
  | zero =>
    intro σ v0 v1 v2 v3 v4 v5 y4 H locs ls hm C0 hW hS hl kk
    rw [m_X9_seenBy_L17] at hm
    cases hm
  | succ n ih =>
    intro σ v0 v1 v2 v3 v4 v5 y4 H locs ls hm C0 hW hS hl kk
    rw [m_X9_seenBy_L17] at hm
    have hx := C0.1
    have hb := C0.2.1
    refine lv_iload hx hb dX9_seenBy_17 (lv_at hl 5 rfl) ?_
    refine lv_aload_n hx hb dX9_seenBy_19 rfl (lv_at hl 0 rfl) ?_
    replace hm := ob hm; obtain ⟨a2, e3, hm⟩ := hm
    refine r_getA C0 hW fl_X9_7 e3 dX9_seenBy_20 ?_
    refine lv_sipush (v := 138) hx hb dX9_seenBy_23 (by decide) ?_
    replace hm := ob hm; obtain ⟨x4, e5, hm⟩ := hm
    refine r_aI C0 hW e5 dX9_seenBy_26 ?_
    refine lv_icmp_ge (tgt := 66) hx hb dX9_seenBy_27 (by decide) (fun h6 => ?_) (fun h6 => ?_)
    · rw [if_pos h6] at hm
      cases hm
      exact kk _ _ _ hW hS (lv_sub hl [0, 1, 2, 3, 4] rfl)
    · rw [if_neg h6] at hm
      refine lv_iload hx hb dX9_seenBy_30 (lv_at hl 4 rfl) ?_
      refine lv_aload_n hx hb dX9_seenBy_32 rfl (lv_at hl 0 rfl) ?_
      replace hm := ob hm; obtain ⟨a7, e8, hm⟩ := hm
      refine r_getA C0 hW fl_X9_7 e8 dX9_seenBy_33 ?_
      refine lv_sipush (v := 165) hx hb dX9_seenBy_36 (by decide) ?_
      refine lv_sipush (v := 1000) hx hb dX9_seenBy_39 (by decide) ?_
      refine lv_iload hx hb dX9_seenBy_42 (lv_at hl 5 rfl) ?_
      refine lv_imul hx hb dX9_seenBy_44 ?_
      refine lv_iadd hx hb dX9_seenBy_45 ?_
      refine lv_iload_n hx hb dX9_seenBy_46 rfl (lv_at hl 3 rfl) ?_
      refine lv_iadd hx hb dX9_seenBy_47 ?_
      replace hm := ob hm; obtain ⟨x9, e10, hm⟩ := hm
      refine r_aI C0 hW e10 dX9_seenBy_48 ?_
      replace hm := ob hm; obtain ⟨y13, e18, hm⟩ := hm
      have J57_11 : ∀ (H : Heap) (locs : List Loc) (ls : Array Slot), zW D ca A σ H → va_S A s.heap H locs → lv_has ls 6 [(0, .ref v0), (1, .int v1), (2, .int v2), (3, .int v3), (5, .int v5)] → W p l e ({ frames := 0, cells := 0, slots := 0, locals := 0 } : Room) s m args below meth c H locs 0 0 Q (F0 m 57 ls [.int y13, .int v4]) := by
        intro H locs ls hW hS hl
        refine lv_iadd hx hb dX9_seenBy_57 ?_
        replace hm := ob hm; obtain ⟨x14, e15, hm⟩ := hm
        refine z_top e15 ?_
        refine lv_istore (lv' := [(4, .int x14), (0, .ref v0), (1, .int v1), (2, .int v2), (3, .int v3), (5, .int v5)]) hx hb dX9_seenBy_58 hl (by decide) rfl (fun ls hl => ?_)
        replace hm := ob hm; obtain ⟨x16, e17, hm⟩ := hm
        refine lv_iinc (v := x16) (lv' := [(5, .int x16), (4, .int x14), (0, .ref v0), (1, .int v1), (2, .int v2), (3, .int v3)]) hx hb dX9_seenBy_60 hl (k := 5) rfl (Option.some.inj e17) (by decide) rfl (fun ls hl => ?_)
        refine lv_goto (tgt := 17) hx hb dX9_seenBy_63 (by decide) ?_
        exact ih hm C0 hW hS (lv_sub hl [2, 3, 4, 5, 1, 0] rfl) kk
      clear hm
      have hm := e18
      clear e18
      refine lv_if_le (tgt := 56) hx hb dX9_seenBy_49 (by decide) (fun h11 => ?_) (fun h11 => ?_)
      · rw [if_pos h11] at hm
        refine lv_iconst (v := 0) hx hb dX9_seenBy_56 (by decide) ?_
        have hq1 := Option.some.inj hm; subst hq1
        exact J57_11 _ _ _ hW hS (lv_sub hl [0, 1, 2, 3, 5] rfl)
      · rw [if_neg h11] at hm
        refine lv_iconst (v := 1) hx hb dX9_seenBy_52 (by decide) ?_
        refine lv_goto (tgt := 57) hx hb dX9_seenBy_53 (by decide) ?_
        have hq1 := Option.some.inj hm; subst hq1
        exact J57_11 _ _ _ hW hS (lv_sub hl [0, 1, 2, 3, 5] rfl)
set_option maxHeartbeats 4000000 in
set_option maxRecDepth 100000 in
theorem w_X9_seenBy_L4 {p : Program} {l : Launch} {e : Env} {s : State} {m : MethodId} {args : Array Value} {below : List Frame} {meth : Method} {c : Code} {D : va_G} {ca : Nat → ClassId} {A : Nat → Prop} {Q : State → Prop} (N : Nat) : ∀ (n : Nat) {σ : zS} {v0 : Nat} {v1 : Int32} {v2 : Int32} {v3 : Int32} {y2 : Int32} {H : Heap} {locs : List Loc} {ls : Array Slot}, m_X9_seenBy_L4 N n σ v0 v1 v2 v3 = some y2 → zC p s m args c RX9 cX9_seenBy 6 D ca A → zW D ca A σ H → va_S A s.heap H locs → lv_has ls 6 [(0, .ref v0), (1, .int v1), (2, .int v2), (3, .int v3)] → (∀ (H : Heap) (locs : List Loc) (ls : Array Slot), zW D ca A σ H → va_S A s.heap H locs → lv_has ls 6 [(2, .int y2)] → W p l e ({ frames := 0, cells := 0, slots := 0, locals := 0 } : Room) s m args below meth c H locs 0 0 Q (F0 m 102 ls [])) → W p l e ({ frames := 0, cells := 0, slots := 0, locals := 0 } : Room) s m args below meth c H locs 0 0 Q (F0 m 4 ls []) := by
  intro n
  induction n with
  | zero =>
    intro σ v0 v1 v2 v3 y2 H locs ls hm C0 hW hS hl kk
    rw [m_X9_seenBy_L4] at hm
    cases hm
  | succ n ih =>
    intro σ v0 v1 v2 v3 y2 H locs ls hm C0 hW hS hl kk
    rw [m_X9_seenBy_L4] at hm
    have hx := C0.1
    have hb := C0.2.1
    refine lv_iload_n hx hb dX9_seenBy_4 rfl (lv_at hl 3 rfl) ?_
    refine lv_sipush (v := 1000) hx hb dX9_seenBy_5 (by decide) ?_
    refine lv_icmp_ge (tgt := 102) hx hb dX9_seenBy_8 (by decide) (fun h1 => ?_) (fun h1 => ?_)
    · rw [if_pos h1] at hm
      cases hm
      exact kk _ _ _ hW hS (lv_sub hl [2] rfl)
    · rw [if_neg h1] at hm
      refine lv_iconst (v := 0) hx hb dX9_seenBy_11 (by decide) ?_
      refine lv_istore (lv' := [(4, .int 0), (0, .ref v0), (1, .int v1), (2, .int v2), (3, .int v3)]) hx hb dX9_seenBy_12 hl (by decide) rfl (fun ls hl => ?_)
      refine lv_iconst (v := 0) hx hb dX9_seenBy_14 (by decide) ?_
      refine lv_istore (lv' := [(5, .int 0), (4, .int 0), (0, .ref v0), (1, .int v1), (2, .int v2), (3, .int v3)]) hx hb dX9_seenBy_15 hl (by decide) rfl (fun ls hl => ?_)
      replace hm := ob hm; obtain ⟨y19, e20, hm⟩ := hm
      refine w_X9_seenBy_L17 N N e20 C0 hW hS (lv_sub hl [2, 3, 4, 5, 1, 0] rfl) (fun H locs ls hW hS hl => ?_)
      refine lv_iload_n hx hb dX9_seenBy_66 rfl (lv_at hl 2 rfl) ?_
      refine lv_iload hx hb dX9_seenBy_67 (lv_at hl 4 rfl) ?_
      replace hm := ob hm; obtain ⟨y29, e34, hm⟩ := hm
      have J94_21 : ∀ (H : Heap) (locs : List Loc) (ls : Array Slot), zW D ca A σ H → va_S A s.heap H locs → lv_has ls 6 [(0, .ref v0), (1, .int v1), (3, .int v3)] → W p l e ({ frames := 0, cells := 0, slots := 0, locals := 0 } : Room) s m args below meth c H locs 0 0 Q (F0 m 94 ls [.int y29, .int v2]) := by
        intro H locs ls hW hS hl
        refine lv_iadd hx hb dX9_seenBy_94 ?_
        replace hm := ob hm; obtain ⟨x30, e31, hm⟩ := hm
        refine z_top e31 ?_
        refine lv_istore_n (lv' := [(2, .int x30), (0, .ref v0), (1, .int v1), (3, .int v3)]) hx hb dX9_seenBy_95 rfl hl (by decide) rfl (fun ls hl => ?_)
        replace hm := ob hm; obtain ⟨x32, e33, hm⟩ := hm
        refine lv_iinc (v := x32) (lv' := [(3, .int x32), (2, .int x30), (0, .ref v0), (1, .int v1)]) hx hb dX9_seenBy_96 hl (k := 3) rfl (Option.some.inj e33) (by decide) rfl (fun ls hl => ?_)
        refine lv_goto (tgt := 4) hx hb dX9_seenBy_99 (by decide) ?_
        exact ih hm C0 hW hS (lv_sub hl [2, 3, 1, 0] rfl) kk
      clear hm
      have hm := e34
      clear e34
      refine lv_if_le (tgt := 93) hx hb dX9_seenBy_69 (by decide) (fun h21 => ?_) (fun h21 => ?_)
      · rw [if_pos h21] at hm
        refine lv_iconst (v := 0) hx hb dX9_seenBy_93 (by decide) ?_
        have hq1 := Option.some.inj hm; subst hq1
        exact J94_21 _ _ _ hW hS (lv_sub hl [0, 1, 3] rfl)
      · rw [if_neg h21] at hm
        refine lv_iload_n hx hb dX9_seenBy_72 rfl (lv_at hl 1 rfl) ?_
        refine lv_if_eq (tgt := 89) hx hb dX9_seenBy_73 (by decide) (fun h23 => ?_) (fun h23 => ?_)
        · rw [if_pos h23] at hm
          refine lv_iconst (v := 1) hx hb dX9_seenBy_89 (by decide) ?_
          refine lv_goto (tgt := 94) hx hb dX9_seenBy_90 (by decide) ?_
          have hq1 := Option.some.inj hm; subst hq1
          exact J94_21 _ _ _ hW hS (lv_sub hl [0, 1, 3] rfl)
        · rw [if_neg h23] at hm
          refine lv_iload hx hb dX9_seenBy_76 (lv_at hl 4 rfl) ?_
          refine lv_aload_n hx hb dX9_seenBy_78 rfl (lv_at hl 0 rfl) ?_
          replace hm := ob hm; obtain ⟨a24, e25, hm⟩ := hm
          refine r_getA C0 hW fl_X9_7 e25 dX9_seenBy_79 ?_
          refine lv_sipush (v := 138) hx hb dX9_seenBy_82 (by decide) ?_
          replace hm := ob hm; obtain ⟨x26, e27, hm⟩ := hm
          refine r_aI C0 hW e27 dX9_seenBy_85 ?_
          refine lv_icmp_ne (tgt := 93) hx hb dX9_seenBy_86 (by decide) (fun h28 => ?_) (fun h28 => ?_)
          · rw [if_neg h28] at hm
            refine lv_iconst (v := 0) hx hb dX9_seenBy_93 (by decide) ?_
            have hq1 := Option.some.inj hm; subst hq1
            exact J94_21 _ _ _ hW hS (lv_sub hl [0, 1, 3] rfl)
          · rw [if_pos h28] at hm
            refine lv_iconst (v := 1) hx hb dX9_seenBy_89 (by decide) ?_
            refine lv_goto (tgt := 94) hx hb dX9_seenBy_90 (by decide) ?_
            have hq1 := Option.some.inj hm; subst hq1
            exact J94_21 _ _ _ hW hS (lv_sub hl [0, 1, 3] rfl)
set_option maxHeartbeats 4000000 in
set_option maxRecDepth 100000 in
theorem b_X9_seenBy {l : Launch} {D : va_G} {ca : Nat → ClassId} {A : Nat → Prop} {N : Nat} {σ : zS} {v0 : Nat} {v1 : Int32} {r0 : Int32} (hm : m_X9_seenBy N σ v0 v1 = some r0) : Met l yX9_seenBy (.code yX9_seenBy cX9_seenBy 6 (some .int) :: wsL_law) ({ frames := 0, cells := 0, slots := 0, locals := 0 } : Room) (va_Pc [.ref v0, .int v1] (zP D ca A σ)) (zQi r0 D ca A σ) 0 0 A := by
  refine zMk (by decide +kernel) (Nat.le_of_ble_eq_true rfl) ?_
  intro p e s m below meth c C0 hr hlocks hin hW ls hl
  have hx := C0.1
  have hb := C0.2.1
  have hS : va_S A s.heap s.heap [] := va_S.rf
  have hl : lv_has ls 6 [(0, .ref v0), (1, .int v1)] := hl
  unfold m_X9_seenBy at hm
  refine lv_iconst (v := 0) hx hb dX9_seenBy_0 (by decide) ?_
  refine lv_istore_n (lv' := [(2, .int 0), (0, .ref v0), (1, .int v1)]) hx hb dX9_seenBy_1 rfl hl (by decide) rfl (fun ls hl => ?_)
  refine lv_iconst (v := 0) hx hb dX9_seenBy_2 (by decide) ?_
  refine lv_istore_n (lv' := [(3, .int 0), (2, .int 0), (0, .ref v0), (1, .int v1)]) hx hb dX9_seenBy_3 rfl hl (by decide) rfl (fun ls hl => ?_)
  replace hm := ob hm; obtain ⟨y35, e36, hm⟩ := hm
  refine w_X9_seenBy_L4 N N e36 C0 hW hS (lv_sub hl [2, 3, 1, 0] rfl) (fun H locs ls hW hS hl => ?_)
  refine lv_iload_n hx hb dX9_seenBy_102 rfl (lv_at hl 0 rfl) ?_
  cases hm
  exact r_iret C0 hr hlocks hW hS dX9_seenBy_103
set_option maxHeartbeats 4000000 in
set_option maxRecDepth 100000 in
theorem w_X9_rightOnes_L4 {p : Program} {l : Launch} {e : Env} {s : State} {m : MethodId} {args : Array Value} {below : List Frame} {meth : Method} {c : Code} {D : va_G} {ca : Nat → ClassId} {A : Nat → Prop} {Q : State → Prop} (N : Nat) : ∀ (n : Nat) {σ : zS} {v0 : Nat} {v1 : Int32} {v2 : Int32} {y1 : Int32} {H : Heap} {locs : List Loc} {ls : Array Slot}, m_X9_rightOnes_L4 N n σ v0 v1 v2 = some y1 → zC p s m args c RX9 cX9_rightOnes 3 D ca A → zW D ca A σ H → va_S A s.heap H locs → lv_has ls 3 [(0, .ref v0), (1, .int v1), (2, .int v2)] → (∀ (H : Heap) (locs : List Loc) (ls : Array Slot), zW D ca A σ H → va_S A s.heap H locs → lv_has ls 3 [(1, .int y1)] → W p l e ({ frames := 6, cells := 0, slots := 0, locals := 134 } : Room) s m args below meth c H locs 0 0 Q (F0 m 38 ls [])) → W p l e ({ frames := 6, cells := 0, slots := 0, locals := 134 } : Room) s m args below meth c H locs 0 0 Q (F0 m 4 ls []) := by
  intro n
  induction n with
  | zero =>
    intro σ v0 v1 v2 y1 H locs ls hm C0 hW hS hl kk
    rw [m_X9_rightOnes_L4] at hm
    cases hm
  | succ n ih =>
    intro σ v0 v1 v2 y1 H locs ls hm C0 hW hS hl kk
    rw [m_X9_rightOnes_L4] at hm
    have hx := C0.1
    have hb := C0.2.1
    refine lv_iload_n hx hb dX9_rightOnes_4 rfl (lv_at hl 2 rfl) ?_
    refine lv_aload_n hx hb dX9_rightOnes_5 rfl (lv_at hl 0 rfl) ?_
    replace hm := ob hm; obtain ⟨a1, e2, hm⟩ := hm
    refine r_getA C0 hW fl_X9_7 e2 dX9_rightOnes_6 ?_
    refine lv_sipush (v := 138) hx hb dX9_rightOnes_9 (by decide) ?_
    replace hm := ob hm; obtain ⟨x3, e4, hm⟩ := hm
    refine r_aI C0 hW e4 dX9_rightOnes_12 ?_
    refine lv_icmp_ge (tgt := 38) hx hb dX9_rightOnes_13 (by decide) (fun h5 => ?_) (fun h5 => ?_)
    · rw [if_pos h5] at hm
      cases hm
      exact kk _ _ _ hW hS (lv_sub hl [1] rfl)
    · rw [if_neg h5] at hm
      refine lv_iload_n hx hb dX9_rightOnes_16 rfl (lv_at hl 1 rfl) ?_
      refine lv_aload_n hx hb dX9_rightOnes_17 rfl (lv_at hl 0 rfl) ?_
      refine lv_iload_n hx hb dX9_rightOnes_18 rfl (lv_at hl 2 rfl) ?_
      replace hm := ob hm; obtain ⟨u6, e7, hm⟩ := hm
      replace hm := ob hm; obtain ⟨x9, e8, hm⟩ := hm
      refine z_calli (z_runV (As := [.int v2]) (rest := [.int v1]) (ci := 9) rfl rfl C0 lv_X9_157 (b_X9_error e8) hW hS e7 rfl hl.1 rfl (Nat.le_of_ble_eq_true rfl) dX9_rightOnes_19 rfl rfl ⟨Nat.le_of_ble_eq_true rfl, Nat.le_of_ble_eq_true rfl⟩ ⟨Nat.le_refl _, Nat.le_refl _⟩) hS (fun H locs hW hS => ?_)
      replace hm := ob hm; obtain ⟨y12, e17, hm⟩ := hm
      have J30_10 : ∀ (H : Heap) (locs : List Loc) (ls : Array Slot), zW D ca A σ H → va_S A s.heap H locs → lv_has ls 3 [(0, .ref v0), (2, .int v2)] → W p l e ({ frames := 6, cells := 0, slots := 0, locals := 134 } : Room) s m args below meth c H locs 0 0 Q (F0 m 30 ls [.int y12, .int v1]) := by
        intro H locs ls hW hS hl
        refine lv_iadd hx hb dX9_rightOnes_30 ?_
        replace hm := ob hm; obtain ⟨x13, e14, hm⟩ := hm
        refine z_top e14 ?_
        refine lv_istore_n (lv' := [(1, .int x13), (0, .ref v0), (2, .int v2)]) hx hb dX9_rightOnes_31 rfl hl (by decide) rfl (fun ls hl => ?_)
        replace hm := ob hm; obtain ⟨x15, e16, hm⟩ := hm
        refine lv_iinc (v := x15) (lv' := [(2, .int x15), (1, .int x13), (0, .ref v0)]) hx hb dX9_rightOnes_32 hl (k := 2) rfl (Option.some.inj e16) (by decide) rfl (fun ls hl => ?_)
        refine lv_goto (tgt := 4) hx hb dX9_rightOnes_35 (by decide) ?_
        exact ih hm C0 hW hS (lv_sub hl [2, 1, 0] rfl) kk
      clear hm
      have hm := e17
      clear e17
      refine lv_if_ne (tgt := 29) hx hb dX9_rightOnes_22 (by decide) (fun h10 => ?_) (fun h10 => ?_)
      · rw [if_neg h10] at hm
        refine lv_iconst (v := 0) hx hb dX9_rightOnes_29 (by decide) ?_
        have hq1 := Option.some.inj hm; subst hq1
        exact J30_10 _ _ _ hW hS (lv_sub hl [0, 2] rfl)
      · rw [if_pos h10] at hm
        refine lv_iconst (v := 1) hx hb dX9_rightOnes_25 (by decide) ?_
        refine lv_goto (tgt := 30) hx hb dX9_rightOnes_26 (by decide) ?_
        have hq1 := Option.some.inj hm; subst hq1
        exact J30_10 _ _ _ hW hS (lv_sub hl [0, 2] rfl)
set_option maxHeartbeats 4000000 in
set_option maxRecDepth 100000 in
theorem b_X9_rightOnes {l : Launch} {D : va_G} {ca : Nat → ClassId} {A : Nat → Prop} {N : Nat} {σ : zS} {v0 : Nat} {r0 : Int32} (hm : m_X9_rightOnes N σ v0 = some r0) : Met l yX9_rightOnes (.code yX9_rightOnes cX9_rightOnes 3 (some .int) :: wsL_law) ({ frames := 6, cells := 0, slots := 0, locals := 134 } : Room) (va_Pc [.ref v0] (zP D ca A σ)) (zQi r0 D ca A σ) 0 0 A := by
  refine zMk (by decide +kernel) (Nat.le_of_ble_eq_true rfl) ?_
  intro p e s m below meth c C0 hr hlocks hin hW ls hl
  have hx := C0.1
  have hb := C0.2.1
  have hS : va_S A s.heap s.heap [] := va_S.rf
  have hl : lv_has ls 3 [(0, .ref v0)] := hl
  unfold m_X9_rightOnes at hm
  refine lv_iconst (v := 0) hx hb dX9_rightOnes_0 (by decide) ?_
  refine lv_istore_n (lv' := [(1, .int 0), (0, .ref v0)]) hx hb dX9_rightOnes_1 rfl hl (by decide) rfl (fun ls hl => ?_)
  refine lv_iconst (v := 0) hx hb dX9_rightOnes_2 (by decide) ?_
  refine lv_istore_n (lv' := [(2, .int 0), (1, .int 0), (0, .ref v0)]) hx hb dX9_rightOnes_3 rfl hl (by decide) rfl (fun ls hl => ?_)
  replace hm := ob hm; obtain ⟨y18, e19, hm⟩ := hm
  refine w_X9_rightOnes_L4 N N e19 C0 hW hS (lv_sub hl [2, 1, 0] rfl) (fun H locs ls hW hS hl => ?_)
  refine lv_iload_n hx hb dX9_rightOnes_38 rfl (lv_at hl 0 rfl) ?_
  cases hm
  exact r_iret C0 hr hlocks hW hS dX9_rightOnes_39
set_option maxHeartbeats 4000000 in
set_option maxRecDepth 100000 in
theorem b_X9_count {l : Launch} {D : va_G} {ca : Nat → ClassId} {A : Nat → Prop} {N : Nat} {σ : zS} {v0 : Nat} {v1 : Int32} {r0 : Int32} (hm : m_X9_count N σ v0 v1 = some r0) : Met l yX9_count (.code yX9_count cX9_count 2 (some .int) :: wsL_law) ({ frames := 7, cells := 0, slots := 0, locals := 156 } : Room) (va_Pc [.ref v0, .int v1] (zP D ca A σ)) (zQi r0 D ca A σ) 0 0 A := by
  refine zMk (by decide +kernel) (Nat.le_of_ble_eq_true rfl) ?_
  intro p e s m below meth c C0 hr hlocks hin hW ls hl
  have hx := C0.1
  have hb := C0.2.1
  have hS : va_S A s.heap s.heap [] := va_S.rf
  have hl : lv_has ls 2 [(0, .ref v0), (1, .int v1)] := hl
  unfold m_X9_count at hm
  refine lv_iload_n hx hb dX9_count_0 rfl (lv_at hl 1 rfl) ?_
  by_cases h1 : v1 = 0
  · rw [if_pos h1] at hm
    refine z_top (congrArg some h1) ?_
    refine lv_tableIn (tgt := 48) hx hb dX9_count_1 (by decide) (by decide) rfl (by decide) ?_
    refine lv_aload_n hx hb dX9_count_48 rfl (lv_at hl 0 rfl) ?_
    replace hm := ob hm; obtain ⟨a2, e3, hm⟩ := hm
    refine r_getA C0 hW fl_X9_7 e3 dX9_count_49 ?_
    refine lv_sipush (v := 138) hx hb dX9_count_52 (by decide) ?_
    replace hm := ob hm; obtain ⟨x4, e5, hm⟩ := hm
    refine r_aI C0 hW e5 dX9_count_55 ?_
    cases hm
    exact r_iret C0 hr hlocks hW hS dX9_count_56
  · rw [if_neg h1] at hm
    by_cases h6 : v1 = 1
    · rw [if_pos h6] at hm
      refine z_top (congrArg some h6) ?_
      refine lv_tableIn (tgt := 57) hx hb dX9_count_1 (by decide) (by decide) rfl (by decide) ?_
      refine lv_aload_n hx hb dX9_count_57 rfl (lv_at hl 0 rfl) ?_
      replace hm := ob hm; obtain ⟨a7, e8, hm⟩ := hm
      refine r_getA C0 hW fl_X9_7 e8 dX9_count_58 ?_
      refine lv_sipush (v := 139) hx hb dX9_count_61 (by decide) ?_
      replace hm := ob hm; obtain ⟨x9, e10, hm⟩ := hm
      refine r_aI C0 hW e10 dX9_count_64 ?_
      cases hm
      exact r_iret C0 hr hlocks hW hS dX9_count_65
    · rw [if_neg h6] at hm
      by_cases h11 : v1 = 2
      · rw [if_pos h11] at hm
        refine z_top (congrArg some h11) ?_
        refine lv_tableIn (tgt := 66) hx hb dX9_count_1 (by decide) (by decide) rfl (by decide) ?_
        refine lv_aload_n hx hb dX9_count_66 rfl (lv_at hl 0 rfl) ?_
        refine lv_iconst (v := 0) hx hb dX9_count_67 (by decide) ?_
        replace hm := ob hm; obtain ⟨u12, e13, hm⟩ := hm
        replace hm := ob hm; obtain ⟨x15, e14, hm⟩ := hm
        refine z_calli (z_runV (As := [.int 0]) (rest := []) (ci := 9) rfl rfl C0 lv_X9_166 (b_X9_seenBy e14) hW hS e13 rfl hl.1 rfl (Nat.le_of_ble_eq_true rfl) dX9_count_68 rfl rfl ⟨Nat.le_of_ble_eq_true rfl, Nat.le_of_ble_eq_true rfl⟩ ⟨Nat.le_refl _, Nat.le_refl _⟩) hS (fun H locs hW hS => ?_)
        cases hm
        exact r_iret C0 hr hlocks hW hS dX9_count_71
      · rw [if_neg h11] at hm
        by_cases h16 : v1 = 3
        · rw [if_pos h16] at hm
          refine z_top (congrArg some h16) ?_
          refine lv_tableIn (tgt := 72) hx hb dX9_count_1 (by decide) (by decide) rfl (by decide) ?_
          refine lv_aload_n hx hb dX9_count_72 rfl (lv_at hl 0 rfl) ?_
          refine lv_iconst (v := 1) hx hb dX9_count_73 (by decide) ?_
          replace hm := ob hm; obtain ⟨u17, e18, hm⟩ := hm
          replace hm := ob hm; obtain ⟨x20, e19, hm⟩ := hm
          refine z_calli (z_runV (As := [.int 1]) (rest := []) (ci := 9) rfl rfl C0 lv_X9_166 (b_X9_seenBy e19) hW hS e18 rfl hl.1 rfl (Nat.le_of_ble_eq_true rfl) dX9_count_74 rfl rfl ⟨Nat.le_of_ble_eq_true rfl, Nat.le_of_ble_eq_true rfl⟩ ⟨Nat.le_refl _, Nat.le_refl _⟩) hS (fun H locs hW hS => ?_)
          cases hm
          exact r_iret C0 hr hlocks hW hS dX9_count_77
        · rw [if_neg h16] at hm
          by_cases h21 : v1 = 4
          · rw [if_pos h21] at hm
            refine z_top (congrArg some h21) ?_
            refine lv_tableIn (tgt := 78) hx hb dX9_count_1 (by decide) (by decide) rfl (by decide) ?_
            refine lv_aload_n hx hb dX9_count_78 rfl (lv_at hl 0 rfl) ?_
            replace hm := ob hm; obtain ⟨a22, e23, hm⟩ := hm
            refine r_getA C0 hW fl_X9_7 e23 dX9_count_79 ?_
            refine lv_sipush (v := 140) hx hb dX9_count_82 (by decide) ?_
            replace hm := ob hm; obtain ⟨x24, e25, hm⟩ := hm
            refine r_aI C0 hW e25 dX9_count_85 ?_
            cases hm
            exact r_iret C0 hr hlocks hW hS dX9_count_86
          · rw [if_neg h21] at hm
            by_cases h26 : v1 = 5
            · rw [if_pos h26] at hm
              refine z_top (congrArg some h26) ?_
              refine lv_tableIn (tgt := 87) hx hb dX9_count_1 (by decide) (by decide) rfl (by decide) ?_
              refine lv_aload_n hx hb dX9_count_87 rfl (lv_at hl 0 rfl) ?_
              replace hm := ob hm; obtain ⟨u27, e28, hm⟩ := hm
              replace hm := ob hm; obtain ⟨x30, e29, hm⟩ := hm
              refine z_calli (z_runV (As := []) (rest := []) (ci := 9) rfl rfl C0 lv_X9_170 (b_X9_rightOnes e29) hW hS e28 rfl hl.1 rfl (Nat.le_of_ble_eq_true rfl) dX9_count_88 rfl rfl ⟨Nat.le_of_ble_eq_true rfl, Nat.le_of_ble_eq_true rfl⟩ ⟨Nat.le_refl _, Nat.le_refl _⟩) hS (fun H locs hW hS => ?_)
              cases hm
              exact r_iret C0 hr hlocks hW hS dX9_count_91
            · rw [if_neg h26] at hm
              by_cases h31 : v1 = 6
              · rw [if_pos h31] at hm
                refine z_top (congrArg some h31) ?_
                refine lv_tableIn (tgt := 92) hx hb dX9_count_1 (by decide) (by decide) rfl (by decide) ?_
                refine lv_aload_n hx hb dX9_count_92 rfl (lv_at hl 0 rfl) ?_
                replace hm := ob hm; obtain ⟨x32, e33, hm⟩ := hm
                refine r_getI C0 hW fl_X9_38 e33 dX9_count_93 ?_
                cases hm
                exact r_iret C0 hr hlocks hW hS dX9_count_96
              · rw [if_neg h31] at hm
                by_cases h34 : v1 = 7
                · rw [if_pos h34] at hm
                  refine z_top (congrArg some h34) ?_
                  refine lv_tableIn (tgt := 97) hx hb dX9_count_1 (by decide) (by decide) rfl (by decide) ?_
                  refine lv_aload_n hx hb dX9_count_97 rfl (lv_at hl 0 rfl) ?_
                  replace hm := ob hm; obtain ⟨x35, e36, hm⟩ := hm
                  refine r_getI C0 hW fl_X9_174 e36 dX9_count_98 ?_
                  cases hm
                  exact r_iret C0 hr hlocks hW hS dX9_count_101
                · rw [if_neg h34] at hm
                  refine lv_tableOut (tgt := 102) hx hb dX9_count_1 (by have q0 := zne (a := 0) h1 (by decide); have q1 := zne (a := 1) h6 (by decide); have q2 := zne (a := 2) h11 (by decide); have q3 := zne (a := 3) h16 (by decide); have q4 := zne (a := 4) h21 (by decide); have q5 := zne (a := 5) h26 (by decide); have q6 := zne (a := 6) h31 (by decide); have q7 := zne (a := 7) h34 (by decide); omega) (by decide) ?_
                  refine lv_iconst (v := (-1)) hx hb dX9_count_102 (by decide) ?_
                  cases hm
                  exact r_iret C0 hr hlocks hW hS dX9_count_103
set_option maxHeartbeats 4000000 in
set_option maxRecDepth 100000 in
theorem w_X9_does_L7 {p : Program} {l : Launch} {e : Env} {s : State} {m : MethodId} {args : Array Value} {below : List Frame} {meth : Method} {c : Code} {D : va_G} {ca : Nat → ClassId} {A : Nat → Prop} {Q : State → Prop} (N : Nat) : ∀ (n : Nat) {σ : zS} {v0 : Nat} {v1 : Int32} {res : (Int32 × zS) ⊕ (Int32 × zS)} {H : Heap} {locs : List Loc} {ls : Array Slot}, m_X9_does_L7 N n σ v0 v1 = some res → zC p s m args c RX9 cX9_does 4 D ca A → zW D ca A σ H → va_S A s.heap H locs → lv_has ls 4 [(0, .ref v0), (1, .int v1)] → (∀ (r : Int32 × zS), res = .inl r → ∀ (pc : Nat) (H : Heap) (locs : List Loc) (ls : Array Slot), decode cX9_does pc = .ok (.ireturn, 1) → zW D ca A r.2 H → va_S A s.heap H locs → W p l e ({ frames := 7, cells := 0, slots := 0, locals := 164 } : Room) s m args below meth c H locs 0 0 Q (F0 m pc ls [.int r.1])) → (∀  (y1 : Int32) (σ' : zS), res = .inr (y1, σ') → ∀ (H : Heap) (locs : List Loc) (ls : Array Slot), zW D ca A σ' H → va_S A s.heap H locs → lv_has ls 4 [(1, .int y1)] → W p l e ({ frames := 7, cells := 0, slots := 0, locals := 164 } : Room) s m args below meth c H locs 0 0 Q (F0 m 72 ls [])) → W p l e ({ frames := 7, cells := 0, slots := 0, locals := 164 } : Room) s m args below meth c H locs 0 0 Q (F0 m 7 ls []) := by
  intro n
  induction n with
  | zero =>
    intro σ v0 v1 res H locs ls hm C0 hW hS hl kr kk
    rw [m_X9_does_L7] at hm
    cases hm
  | succ n ih =>
    intro σ v0 v1 res H locs ls hm C0 hW hS hl kr kk
    rw [m_X9_does_L7] at hm
    have hx := C0.1
    have hb := C0.2.1
    refine lv_aload_n hx hb dX9_does_7 rfl (lv_at hl 0 rfl) ?_
    replace hm := ob hm; obtain ⟨x3, e4, hm⟩ := hm
    refine r_getI C0 hW fl_X9_196 e4 dX9_does_8 ?_
    refine lv_aload_n hx hb dX9_does_11 rfl (lv_at hl 0 rfl) ?_
    replace hm := ob hm; obtain ⟨x5, e6, hm⟩ := hm
    refine r_getI C0 hW fl_X9_174 e6 dX9_does_12 ?_
    refine lv_icmp_ge (tgt := 72) hx hb dX9_does_15 (by decide) (fun h7 => ?_) (fun h7 => ?_)
    · rw [if_pos h7] at hm
      cases hm
      exact kk _ _ rfl _ _ _ hW hS (lv_sub hl [1] rfl)
    · rw [if_neg h7] at hm
      refine lv_aload_n hx hb dX9_does_18 rfl (lv_at hl 0 rfl) ?_
      replace hm := ob hm; obtain ⟨x8, e9, hm⟩ := hm
      refine r_getI C0 hW fl_X9_196 e9 dX9_does_19 ?_
      refine lv_istore_n (lv' := [(2, .int x8), (0, .ref v0), (1, .int v1)]) hx hb dX9_does_22 rfl hl (by decide) rfl (fun ls hl => ?_)
      refine lv_aload_n hx hb dX9_does_23 rfl (lv_at hl 1 rfl) ?_
      replace hm := ob hm; obtain ⟨u10, e11, hm⟩ := hm
      replace hm := o2 hm; obtain ⟨x14, σ13, e12, hm⟩ := hm
      refine z_calli (z_runV (As := []) (rest := []) (ci := 9) rfl rfl C0 lv_X9_212 (b_X9_command e12) hW hS e11 rfl hl.1 rfl (Nat.le_of_ble_eq_true rfl) dX9_does_24 rfl rfl ⟨Nat.le_of_ble_eq_true rfl, Nat.le_of_ble_eq_true rfl⟩ ⟨Nat.le_refl _, Nat.le_refl _⟩) hS (fun H locs hW hS => ?_)
      refine lv_istore_n (lv' := [(3, .int x14), (2, .int x8), (0, .ref v0), (1, .int v1)]) hx hb dX9_does_27 rfl hl (by decide) rfl (fun ls hl => ?_)
      refine lv_aload_n hx hb dX9_does_28 rfl (lv_at hl 2 rfl) ?_
      refine lv_aload_n hx hb dX9_does_29 rfl (lv_at hl 2 rfl) ?_
      replace hm := ob hm; obtain ⟨x15, e16, hm⟩ := hm
      refine r_getI C0 hW fl_X9_199 e16 dX9_does_30 ?_
      replace hm := ob hm; obtain ⟨y20, e30, hm⟩ := hm
      have J49_17 : ∀ (H : Heap) (locs : List Loc) (ls : Array Slot), zW D ca A σ13 H → va_S A s.heap H locs → lv_has ls 4 [(3, .int x14), (2, .int x8), (0, .ref v0), (1, .int v1)] → W p l e ({ frames := 7, cells := 0, slots := 0, locals := 164 } : Room) s m args below meth c H locs 0 0 Q (F0 m 49 ls [.int y20, .ref v0]) := by
        intro H locs ls hW hS hl
        replace hm := ob hm; obtain ⟨σ21, e22, hm⟩ := hm
        refine r_putI C0 hW hS fl_X9_215 e22 dX9_does_49 (fun H locs hW hS => ?_)
        refine lv_aload_n hx hb dX9_does_52 rfl (lv_at hl 2 rfl) ?_
        refine lv_iload_n hx hb dX9_does_53 rfl (lv_at hl 0 rfl) ?_
        replace hm := ob hm; obtain ⟨σ23, e24, hm⟩ := hm
        refine r_putI C0 hW hS fl_X9_218 e24 dX9_does_54 (fun H locs hW hS => ?_)
        refine lv_aload_n hx hb dX9_does_57 rfl (lv_at hl 2 rfl) ?_
        replace hm := ob hm; obtain ⟨x25, e26, hm⟩ := hm
        refine r_getI C0 hW fl_X9_215 e26 dX9_does_58 ?_
        refine lv_if_le (tgt := 66) hx hb dX9_does_61 (by decide) (fun h27 => ?_) (fun h27 => ?_)
        · rw [if_pos h27] at hm
          replace hm := ob hm; obtain ⟨x28, e29, hm⟩ := hm
          refine lv_iinc (v := x28) (lv' := [(1, .int x28), (3, .int x14), (2, .int x8), (0, .ref v0)]) hx hb dX9_does_66 hl (k := 3) rfl (Option.some.inj e29) (by decide) rfl (fun ls hl => ?_)
          refine lv_goto (tgt := 7) hx hb dX9_does_69 (by decide) ?_
          exact ih hm C0 hW hS (lv_sub hl [3, 0] rfl) kr kk
        · rw [if_neg h27] at hm
          refine lv_iload_n hx hb dX9_does_64 rfl (lv_at hl 1 rfl) ?_
          cases hm
          exact kr _ rfl _ _ _ _ dX9_does_65 hW hS
      clear hm
      have hm := e30
      clear e30
      refine lv_if_ne (tgt := 40) hx hb dX9_does_33 (by decide) (fun h17 => ?_) (fun h17 => ?_)
      · rw [if_neg h17] at hm
        refine lv_iload_n hx hb dX9_does_40 rfl (lv_at hl 0 rfl) ?_
        refine lv_if_ge (tgt := 48) hx hb dX9_does_41 (by decide) (fun h19 => ?_) (fun h19 => ?_)
        · rw [if_pos h19] at hm
          refine lv_iconst (v := 0) hx hb dX9_does_48 (by decide) ?_
          have hq1 := Option.some.inj hm; subst hq1
          exact J49_17 _ _ _ hW hS (lv_sub hl [0, 1, 2, 3] rfl)
        · rw [if_neg h19] at hm
          refine lv_iconst (v := 2) hx hb dX9_does_44 (by decide) ?_
          refine lv_goto (tgt := 49) hx hb dX9_does_45 (by decide) ?_
          have hq1 := Option.some.inj hm; subst hq1
          exact J49_17 _ _ _ hW hS (lv_sub hl [0, 1, 2, 3] rfl)
      · rw [if_pos h17] at hm
        refine lv_iconst (v := 1) hx hb dX9_does_36 (by decide) ?_
        refine lv_goto (tgt := 49) hx hb dX9_does_37 (by decide) ?_
        have hq1 := Option.some.inj hm; subst hq1
        exact J49_17 _ _ _ hW hS (lv_sub hl [0, 1, 2, 3] rfl)
set_option maxHeartbeats 4000000 in
set_option maxRecDepth 100000 in
theorem b_X9_does {l : Launch} {D : va_G} {ca : Nat → ClassId} {A : Nat → Prop} {N : Nat} {σ : zS} {v0 : Nat} {r0 : Int32} {σ' : zS} (hm : m_X9_does N σ v0 = some (r0, σ')) : Met l yX9_does (.code yX9_does cX9_does 4 (some .int) :: wsL_law) ({ frames := 7, cells := 0, slots := 0, locals := 164 } : Room) (va_Pc [.ref v0] (zP D ca A σ)) (zQi r0 D ca A σ') 0 0 A := by
  refine zMk (by decide +kernel) (Nat.le_of_ble_eq_true rfl) ?_
  intro p e s m below meth c C0 hr hlocks hin hW ls hl
  have hx := C0.1
  have hb := C0.2.1
  have hS : va_S A s.heap s.heap [] := va_S.rf
  have hl : lv_has ls 4 [(0, .ref v0)] := hl
  unfold m_X9_does at hm
  refine lv_aload_n hx hb dX9_does_0 rfl (lv_at hl 0 rfl) ?_
  refine lv_iconst (v := 0) hx hb dX9_does_1 (by decide) ?_
  replace hm := ob hm; obtain ⟨σ1, e2, hm⟩ := hm
  refine r_putI C0 hW hS fl_X9_196 e2 dX9_does_2 (fun H locs hW hS => ?_)
  refine lv_iconst (v := 0) hx hb dX9_does_5 (by decide) ?_
  refine lv_istore_n (lv' := [(1, .int 0), (0, .ref v0)]) hx hb dX9_does_6 rfl hl (by decide) rfl (fun ls hl => ?_)
  replace hm := obs hm; rcases hm with ⟨r9, e33, hm⟩ | ⟨z9, e33, hm⟩
  · cases hm
    refine w_X9_does_L7 N N e33 C0 hW hS (lv_sub hl [1, 0] rfl) (fun _ hq pc2 H locs ls d2 hW hS => ?_) (fun _ _ hq => by cases hq)
    cases hq
    exact r_iret C0 hr hlocks hW hS d2
  · replace hm := o2 hm; obtain ⟨y31, σ32, e0, hm⟩ := hm; cases e0
    refine w_X9_does_L7 N N e33 C0 hW hS (lv_sub hl [1, 0] rfl) (fun _ hq => by cases hq) (fun q0 q1 hq H locs ls hW hS hl => ?_)
    cases hq
    refine lv_iconst (v := (-1)) hx hb dX9_does_72 (by decide) ?_
    refine lv_iload_n hx hb dX9_does_73 rfl (lv_at hl 0 rfl) ?_
    refine lv_isub hx hb dX9_does_74 ?_
    obtain ⟨hq8, hq9⟩ := Prod.mk.inj (Option.some.inj hm); subst hq8; subst hq9
    exact r_iret C0 hr hlocks hW hS dX9_does_75
set_option maxHeartbeats 4000000 in
set_option maxRecDepth 100000 in
theorem b_X9_errorBits {l : Launch} {D : va_G} {ca : Nat → ClassId} {A : Nat → Prop} {N : Nat} {σ : zS} {v0 : Nat} {v1 : Int32} {r0 : Int32} (hm : m_X9_errorBits N σ v0 v1 = some r0) : Met l yX9_errorBits (.code yX9_errorBits cX9_errorBits 4 (some .int) :: wsL_law) ({ frames := 6, cells := 0, slots := 0, locals := 134 } : Room) (va_Pc [.ref v0, .int v1] (zP D ca A σ)) (zQi r0 D ca A σ) 0 0 A := by
  refine zMk (by decide +kernel) (Nat.le_of_ble_eq_true rfl) ?_
  intro p e s m below meth c C0 hr hlocks hin hW ls hl
  have hx := C0.1
  have hb := C0.2.1
  have hS : va_S A s.heap s.heap [] := va_S.rf
  have hl : lv_has ls 4 [(0, .ref v0), (1, .int v1)] := hl
  unfold m_X9_errorBits at hm
  refine lv_aload_n hx hb dX9_errorBits_0 rfl (lv_at hl 0 rfl) ?_
  refine lv_iload_n hx hb dX9_errorBits_1 rfl (lv_at hl 1 rfl) ?_
  replace hm := ob hm; obtain ⟨u1, e2, hm⟩ := hm
  replace hm := ob hm; obtain ⟨x4, e3, hm⟩ := hm
  refine z_calli (z_runV (As := [.int v1]) (rest := []) (ci := 9) rfl rfl C0 lv_X9_116 (b_X9_isTable e3) hW hS e2 rfl hl.1 rfl (Nat.le_of_ble_eq_true rfl) dX9_errorBits_2 rfl rfl ⟨Nat.le_of_ble_eq_true rfl, Nat.le_of_ble_eq_true rfl⟩ ⟨Nat.le_refl _, Nat.le_refl _⟩) hS (fun H locs hW hS => ?_)
  refine lv_if_ne (tgt := 10) hx hb dX9_errorBits_5 (by decide) (fun h5 => ?_) (fun h5 => ?_)
  · rw [if_neg h5] at hm
    refine lv_aload_n hx hb dX9_errorBits_10 rfl (lv_at hl 0 rfl) ?_
    refine lv_iload_n hx hb dX9_errorBits_11 rfl (lv_at hl 1 rfl) ?_
    replace hm := ob hm; obtain ⟨u6, e7, hm⟩ := hm
    replace hm := ob hm; obtain ⟨x9, e8, hm⟩ := hm
    refine z_calli (z_runV (As := [.int v1]) (rest := []) (ci := 9) rfl rfl C0 lv_X9_98 (b_X9_exact e8) hW hS e7 rfl hl.1 rfl (Nat.le_of_ble_eq_true rfl) dX9_errorBits_12 rfl rfl ⟨Nat.le_of_ble_eq_true rfl, Nat.le_of_ble_eq_true rfl⟩ ⟨Nat.le_refl _, Nat.le_refl _⟩) hS (fun H locs hW hS => ?_)
    refine lv_if_ne (tgt := 21) hx hb dX9_errorBits_15 (by decide) (fun h10 => ?_) (fun h10 => ?_)
    · rw [if_neg h10] at hm
      refine lv_aload_n hx hb dX9_errorBits_21 rfl (lv_at hl 0 rfl) ?_
      refine lv_iload_n hx hb dX9_errorBits_22 rfl (lv_at hl 1 rfl) ?_
      replace hm := ob hm; obtain ⟨u11, e12, hm⟩ := hm
      replace hm := ob hm; obtain ⟨x14, e13, hm⟩ := hm
      refine z_calli (z_runV (As := [.int v1]) (rest := []) (ci := 9) rfl rfl C0 lv_X9_157 (b_X9_error e13) hW hS e12 rfl hl.1 rfl (Nat.le_of_ble_eq_true rfl) dX9_errorBits_23 rfl rfl ⟨Nat.le_of_ble_eq_true rfl, Nat.le_of_ble_eq_true rfl⟩ ⟨Nat.le_refl _, Nat.le_refl _⟩) hS (fun H locs hW hS => ?_)
      refine lv_i2f hx hb dX9_errorBits_26 ?_
      replace hm := ob hm; obtain ⟨x15, e16, hm⟩ := hm
      refine z_topf e16 ?_
      refine lv_fstore_n (lv' := [(2, .float x15), (0, .ref v0), (1, .int v1)]) hx hb dX9_errorBits_27 rfl hl (by decide) rfl (fun ls hl => ?_)
      refine lv_aload_n hx hb dX9_errorBits_28 rfl (lv_at hl 1 rfl) ?_
      refine lv_iload_n hx hb dX9_errorBits_29 rfl (lv_at hl 2 rfl) ?_
      replace hm := ob hm; obtain ⟨u17, e18, hm⟩ := hm
      replace hm := ob hm; obtain ⟨x20, e19, hm⟩ := hm
      refine z_calli (z_runV (As := [.int v1]) (rest := []) (ci := 9) rfl rfl C0 lv_X9_98 (b_X9_exact e19) hW hS e18 rfl hl.1 rfl (Nat.le_of_ble_eq_true rfl) dX9_errorBits_30 rfl rfl ⟨Nat.le_of_ble_eq_true rfl, Nat.le_of_ble_eq_true rfl⟩ ⟨Nat.le_refl _, Nat.le_refl _⟩) hS (fun H locs hW hS => ?_)
      refine lv_i2f hx hb dX9_errorBits_33 ?_
      replace hm := ob hm; obtain ⟨x21, e22, hm⟩ := hm
      refine z_topf e22 ?_
      refine lv_fstore_n (lv' := [(3, .float x21), (2, .float x15), (0, .ref v0), (1, .int v1)]) hx hb dX9_errorBits_34 rfl hl (by decide) rfl (fun ls hl => ?_)
      refine lv_fload_n hx hb dX9_errorBits_35 rfl (lv_at hl 1 rfl) ?_
      refine lv_fload_n hx hb dX9_errorBits_36 rfl (lv_at hl 0 rfl) ?_
      replace hm := ob hm; obtain ⟨u23, e24, hm⟩ := hm
      refine lv_fdiv hx hb dX9_errorBits_37 (ckN_n e24) ?_
      replace hm := ob hm; obtain ⟨x26, e25, hm⟩ := hm
      refine z_calli (z_runS (As := [.float (FP.fdiv x15 x21)]) (rest := []) C0 ls_X9_177 (b_Jxf58ca_floatToIntBits_5c35a e25) hW hS rfl hl.1 rfl (Nat.le_of_ble_eq_true rfl) dX9_errorBits_38 rfl rfl ⟨Nat.le_of_ble_eq_true rfl, Nat.le_of_ble_eq_true rfl⟩ ⟨Nat.le_refl _, Nat.le_refl _⟩) hS (fun H locs hW hS => ?_)
      cases hm
      exact r_iret C0 hr hlocks hW hS dX9_errorBits_41
    · rw [if_pos h10] at hm
      refine lv_bipush (v := (-4)) hx hb dX9_errorBits_18 (by decide) ?_
      cases hm
      exact r_iret C0 hr hlocks hW hS dX9_errorBits_20
  · rw [if_pos h5] at hm
    refine lv_iconst (v := (-1)) hx hb dX9_errorBits_8 (by decide) ?_
    cases hm
    exact r_iret C0 hr hlocks hW hS dX9_errorBits_9
set_option maxHeartbeats 4000000 in
set_option maxRecDepth 100000 in
theorem b_X9_fault {l : Launch} {D : va_G} {ca : Nat → ClassId} {A : Nat → Prop} {N : Nat} {σ : zS} {v0 : Nat} {v1 : Int32} {r0 : Int32} {σ' : zS} (hm : m_X9_fault N σ v0 v1 = some (r0, σ')) : Met l yX9_fault (.code yX9_fault cX9_fault 3 (some .int) :: wsL_law) ({ frames := 8, cells := 0, slots := 0, locals := 187 } : Room) (va_Pc [.ref v0, .int v1] (zP D ca A σ)) (zQi r0 D ca A σ') 0 0 A := by
  refine zMk (by decide +kernel) (Nat.le_of_ble_eq_true rfl) ?_
  intro p e s m below meth c C0 hr hlocks hin hW ls hl
  have hx := C0.1
  have hb := C0.2.1
  have hS : va_S A s.heap s.heap [] := va_S.rf
  have hl : lv_has ls 3 [(0, .ref v0), (1, .int v1)] := hl
  unfold m_X9_fault at hm
  refine lv_iload_n hx hb dX9_fault_0 rfl (lv_at hl 1 rfl) ?_
  refine lv_iconst (v := 0) hx hb dX9_fault_1 (by decide) ?_
  refine lv_iconst (v := 2) hx hb dX9_fault_2 (by decide) ?_
  replace hm := ob hm; obtain ⟨x2, e1, hm⟩ := hm
  refine z_calli (z_runS (As := [.int v1, .int 0, .int 2]) (rest := []) C0 ls_X9_49 (b_X9_in e1) hW hS rfl hl.1 rfl (Nat.le_of_ble_eq_true rfl) dX9_fault_3 rfl rfl ⟨Nat.le_of_ble_eq_true rfl, Nat.le_of_ble_eq_true rfl⟩ ⟨Nat.le_refl _, Nat.le_refl _⟩) hS (fun H locs hW hS => ?_)
  refine lv_if_ne (tgt := 11) hx hb dX9_fault_6 (by decide) (fun h3 => ?_) (fun h3 => ?_)
  · rw [if_neg h3] at hm
    refine lv_aload_n hx hb dX9_fault_11 rfl (lv_at hl 0 rfl) ?_
    replace hm := ob hm; obtain ⟨a4, e5, hm⟩ := hm
    refine r_getA C0 hW fl_X9_7 e5 dX9_fault_12 ?_
    refine lv_aload_n hx hb dX9_fault_15 rfl (lv_at hl 0 rfl) ?_
    replace hm := ob hm; obtain ⟨a6, e7, hm⟩ := hm
    refine r_getA C0 hW fl_X9_13 e7 dX9_fault_16 ?_
    replace hm := ob hm; obtain ⟨σ9, e8, hm⟩ := hm
    refine z_callv (z_runS (As := [.ref a4, .ref a6]) (rest := []) C0 ls_X9_34 (b_X9_copy e8) hW hS rfl hl.1 rfl (Nat.le_of_ble_eq_true rfl) dX9_fault_19 rfl rfl ⟨Nat.le_of_ble_eq_true rfl, Nat.le_of_ble_eq_true rfl⟩ ⟨Nat.le_refl _, Nat.le_refl _⟩) hS (fun H locs hW hS => ?_)
    refine lv_aload_n hx hb dX9_fault_22 rfl (lv_at hl 0 rfl) ?_
    replace hm := ob hm; obtain ⟨u10, e11, hm⟩ := hm
    replace hm := o2 hm; obtain ⟨x14, σ13, e12, hm⟩ := hm
    refine z_calli (z_runV (As := []) (rest := []) (ci := 9) rfl rfl C0 lv_X9_221 (b_X9_does e12) hW hS e11 rfl hl.1 rfl (Nat.le_of_ble_eq_true rfl) dX9_fault_23 rfl rfl ⟨Nat.le_of_ble_eq_true rfl, Nat.le_of_ble_eq_true rfl⟩ ⟨Nat.le_refl _, Nat.le_refl _⟩) hS (fun H locs hW hS => ?_)
    refine lv_istore_n (lv' := [(2, .int x14), (0, .ref v0), (1, .int v1)]) hx hb dX9_fault_26 rfl hl (by decide) rfl (fun ls hl => ?_)
    refine lv_aload_n hx hb dX9_fault_27 rfl (lv_at hl 1 rfl) ?_
    replace hm := ob hm; obtain ⟨a15, e16, hm⟩ := hm
    refine r_getA C0 hW fl_X9_13 e16 dX9_fault_28 ?_
    refine lv_aload_n hx hb dX9_fault_31 rfl (lv_at hl 1 rfl) ?_
    replace hm := ob hm; obtain ⟨a17, e18, hm⟩ := hm
    refine r_getA C0 hW fl_X9_7 e18 dX9_fault_32 ?_
    replace hm := ob hm; obtain ⟨σ20, e19, hm⟩ := hm
    refine z_callv (z_runS (As := [.ref a15, .ref a17]) (rest := []) C0 ls_X9_34 (b_X9_copy e19) hW hS rfl hl.1 rfl (Nat.le_of_ble_eq_true rfl) dX9_fault_35 rfl rfl ⟨Nat.le_of_ble_eq_true rfl, Nat.le_of_ble_eq_true rfl⟩ ⟨Nat.le_refl _, Nat.le_refl _⟩) hS (fun H locs hW hS => ?_)
    refine lv_iload_n hx hb dX9_fault_38 rfl (lv_at hl 0 rfl) ?_
    refine lv_if_lt (tgt := 55) hx hb dX9_fault_39 (by decide) (fun h21 => ?_) (fun h21 => ?_)
    · rw [if_pos h21] at hm
      refine lv_bipush (v := (-4)) hx hb dX9_fault_55 (by decide) ?_
      obtain ⟨hq8, hq9⟩ := Prod.mk.inj (Option.some.inj hm); subst hq8; subst hq9
      exact r_iret C0 hr hlocks hW hS dX9_fault_57
    · rw [if_neg h21] at hm
      refine lv_iload_n hx hb dX9_fault_42 rfl (lv_at hl 2 rfl) ?_
      refine lv_iconst (v := 2) hx hb dX9_fault_43 (by decide) ?_
      refine lv_icmp_ne (tgt := 58) hx hb dX9_fault_44 (by decide) (fun h22 => ?_) (fun h22 => ?_)
      · rw [if_neg h22] at hm
        refine lv_iload_n hx hb dX9_fault_58 rfl (lv_at hl 2 rfl) ?_
        refine lv_if_ne (tgt := 66) hx hb dX9_fault_59 (by decide) (fun h23 => ?_) (fun h23 => ?_)
        · rw [if_neg h23] at hm
          refine lv_iload_n hx hb dX9_fault_66 rfl (lv_at hl 2 rfl) ?_
          refine lv_iconst (v := 1) hx hb dX9_fault_67 (by decide) ?_
          refine lv_icmp_ne (tgt := 78) hx hb dX9_fault_68 (by decide) (fun h24 => ?_) (fun h24 => ?_)
          · rw [if_neg h24] at hm
            refine lv_aload_n hx hb dX9_fault_78 rfl (lv_at hl 1 rfl) ?_
            replace hm := ob hm; obtain ⟨x25, e26, hm⟩ := hm
            refine r_getI C0 hW fl_X9_218 e26 dX9_fault_79 ?_
            obtain ⟨hq8, hq9⟩ := Prod.mk.inj (Option.some.inj hm); subst hq8; subst hq9
            exact r_iret C0 hr hlocks hW hS dX9_fault_82
          · rw [if_pos h24] at hm
            refine lv_aload_n hx hb dX9_fault_71 rfl (lv_at hl 1 rfl) ?_
            replace hm := ob hm; obtain ⟨x27, e28, hm⟩ := hm
            refine r_getI C0 hW fl_X9_215 e28 dX9_fault_72 ?_
            refine lv_goto (tgt := 82) hx hb dX9_fault_75 (by decide) ?_
            obtain ⟨hq8, hq9⟩ := Prod.mk.inj (Option.some.inj hm); subst hq8; subst hq9
            exact r_iret C0 hr hlocks hW hS dX9_fault_82
        · rw [if_pos h23] at hm
          refine lv_iload_n hx hb dX9_fault_62 rfl (lv_at hl 0 rfl) ?_
          refine lv_goto (tgt := 82) hx hb dX9_fault_63 (by decide) ?_
          obtain ⟨hq8, hq9⟩ := Prod.mk.inj (Option.some.inj hm); subst hq8; subst hq9
          exact r_iret C0 hr hlocks hW hS dX9_fault_82
      · rw [if_pos h22] at hm
        refine lv_aload_n hx hb dX9_fault_47 rfl (lv_at hl 1 rfl) ?_
        replace hm := ob hm; obtain ⟨x29, e30, hm⟩ := hm
        refine r_getI C0 hW fl_X9_215 e30 dX9_fault_48 ?_
        refine lv_iconst (v := 1) hx hb dX9_fault_51 (by decide) ?_
        refine lv_icmp_ne (tgt := 58) hx hb dX9_fault_52 (by decide) (fun h31 => ?_) (fun h31 => ?_)
        · rw [if_neg h31] at hm
          refine lv_iload_n hx hb dX9_fault_58 rfl (lv_at hl 2 rfl) ?_
          refine lv_if_ne (tgt := 66) hx hb dX9_fault_59 (by decide) (fun h32 => ?_) (fun h32 => ?_)
          · rw [if_neg h32] at hm
            refine lv_iload_n hx hb dX9_fault_66 rfl (lv_at hl 2 rfl) ?_
            refine lv_iconst (v := 1) hx hb dX9_fault_67 (by decide) ?_
            refine lv_icmp_ne (tgt := 78) hx hb dX9_fault_68 (by decide) (fun h33 => ?_) (fun h33 => ?_)
            · rw [if_neg h33] at hm
              refine lv_aload_n hx hb dX9_fault_78 rfl (lv_at hl 1 rfl) ?_
              replace hm := ob hm; obtain ⟨x34, e35, hm⟩ := hm
              refine r_getI C0 hW fl_X9_218 e35 dX9_fault_79 ?_
              obtain ⟨hq8, hq9⟩ := Prod.mk.inj (Option.some.inj hm); subst hq8; subst hq9
              exact r_iret C0 hr hlocks hW hS dX9_fault_82
            · rw [if_pos h33] at hm
              refine lv_aload_n hx hb dX9_fault_71 rfl (lv_at hl 1 rfl) ?_
              replace hm := ob hm; obtain ⟨x36, e37, hm⟩ := hm
              refine r_getI C0 hW fl_X9_215 e37 dX9_fault_72 ?_
              refine lv_goto (tgt := 82) hx hb dX9_fault_75 (by decide) ?_
              obtain ⟨hq8, hq9⟩ := Prod.mk.inj (Option.some.inj hm); subst hq8; subst hq9
              exact r_iret C0 hr hlocks hW hS dX9_fault_82
          · rw [if_pos h32] at hm
            refine lv_iload_n hx hb dX9_fault_62 rfl (lv_at hl 0 rfl) ?_
            refine lv_goto (tgt := 82) hx hb dX9_fault_63 (by decide) ?_
            obtain ⟨hq8, hq9⟩ := Prod.mk.inj (Option.some.inj hm); subst hq8; subst hq9
            exact r_iret C0 hr hlocks hW hS dX9_fault_82
        · rw [if_pos h31] at hm
          refine lv_bipush (v := (-4)) hx hb dX9_fault_55 (by decide) ?_
          obtain ⟨hq8, hq9⟩ := Prod.mk.inj (Option.some.inj hm); subst hq8; subst hq9
          exact r_iret C0 hr hlocks hW hS dX9_fault_57
  · rw [if_pos h3] at hm
    refine lv_iconst (v := (-1)) hx hb dX9_fault_9 (by decide) ?_
    obtain ⟨hq8, hq9⟩ := Prod.mk.inj (Option.some.inj hm); subst hq8; subst hq9
    exact r_iret C0 hr hlocks hW hS dX9_fault_10
set_option maxHeartbeats 4000000 in
set_option maxRecDepth 100000 in
theorem b_X9_has {l : Launch} {D : va_G} {ca : Nat → ClassId} {A : Nat → Prop} {N : Nat} {σ : zS} {v0 : Nat} {v1 : Int32} {v2 : Int32} {v3 : Int32} {r0 : Int32} {σ' : zS} (hm : m_X9_has N σ v0 v1 v2 v3 = some (r0, σ')) : Met l yX9_has (.code yX9_has cX9_has 5 (some .int) :: wsL_law) ({ frames := 3, cells := 0, slots := 0, locals := 72 } : Room) (va_Pc [.ref v0, .int v1, .int v2, .int v3] (zP D ca A σ)) (zQi r0 D ca A σ') 0 0 A := by
  refine zMk (by decide +kernel) (Nat.le_of_ble_eq_true rfl) ?_
  intro p e s m below meth c C0 hr hlocks hin hW ls hl
  have hx := C0.1
  have hb := C0.2.1
  have hS : va_S A s.heap s.heap [] := va_S.rf
  have hl : lv_has ls 5 [(0, .ref v0), (1, .int v1), (2, .int v2), (3, .int v3)] := hl
  unfold m_X9_has at hm
  refine lv_aload_n hx hb dX9_has_0 rfl (lv_at hl 0 rfl) ?_
  refine lv_iload_n hx hb dX9_has_1 rfl (lv_at hl 1 rfl) ?_
  replace hm := ob hm; obtain ⟨u1, e2, hm⟩ := hm
  replace hm := ob hm; obtain ⟨x4, e3, hm⟩ := hm
  refine z_calli (z_runV (As := [.int v1]) (rest := []) (ci := 9) rfl rfl C0 lv_X9_116 (b_X9_isTable e3) hW hS e2 rfl hl.1 rfl (Nat.le_of_ble_eq_true rfl) dX9_has_2 rfl rfl ⟨Nat.le_of_ble_eq_true rfl, Nat.le_of_ble_eq_true rfl⟩ ⟨Nat.le_refl _, Nat.le_refl _⟩) hS (fun H locs hW hS => ?_)
  refine lv_if_eq (tgt := 24) hx hb dX9_has_5 (by decide) (fun h5 => ?_) (fun h5 => ?_)
  · rw [if_pos h5] at hm
    refine lv_iconst (v := (-1)) hx hb dX9_has_24 (by decide) ?_
    obtain ⟨hq8, hq9⟩ := Prod.mk.inj (Option.some.inj hm); subst hq8; subst hq9
    exact r_iret C0 hr hlocks hW hS dX9_has_25
  · rw [if_neg h5] at hm
    refine lv_iload_n hx hb dX9_has_8 rfl (lv_at hl 2 rfl) ?_
    replace hm := ob hm; obtain ⟨x7, e6, hm⟩ := hm
    refine z_calli (z_runS (As := [.int v2]) (rest := []) C0 ls_X9_120 (b_X9_isThing e6) hW hS rfl hl.1 rfl (Nat.le_of_ble_eq_true rfl) dX9_has_9 rfl rfl ⟨Nat.le_of_ble_eq_true rfl, Nat.le_of_ble_eq_true rfl⟩ ⟨Nat.le_refl _, Nat.le_refl _⟩) hS (fun H locs hW hS => ?_)
    refine lv_if_eq (tgt := 24) hx hb dX9_has_12 (by decide) (fun h8 => ?_) (fun h8 => ?_)
    · rw [if_pos h8] at hm
      refine lv_iconst (v := (-1)) hx hb dX9_has_24 (by decide) ?_
      obtain ⟨hq8, hq9⟩ := Prod.mk.inj (Option.some.inj hm); subst hq8; subst hq9
      exact r_iret C0 hr hlocks hW hS dX9_has_25
    · rw [if_neg h8] at hm
      refine lv_iload_n hx hb dX9_has_15 rfl (lv_at hl 3 rfl) ?_
      refine lv_iconst (v := 0) hx hb dX9_has_16 (by decide) ?_
      refine lv_iconst (v := 1) hx hb dX9_has_17 (by decide) ?_
      replace hm := ob hm; obtain ⟨x10, e9, hm⟩ := hm
      refine z_calli (z_runS (As := [.int v3, .int 0, .int 1]) (rest := []) C0 ls_X9_49 (b_X9_in e9) hW hS rfl hl.1 rfl (Nat.le_of_ble_eq_true rfl) dX9_has_18 rfl rfl ⟨Nat.le_of_ble_eq_true rfl, Nat.le_of_ble_eq_true rfl⟩ ⟨Nat.le_refl _, Nat.le_refl _⟩) hS (fun H locs hW hS => ?_)
      refine lv_if_ne (tgt := 26) hx hb dX9_has_21 (by decide) (fun h11 => ?_) (fun h11 => ?_)
      · rw [if_neg h11] at hm
        refine lv_iload_n hx hb dX9_has_26 rfl (lv_at hl 3 rfl) ?_
        replace hm := o2 hm; obtain ⟨y24, σ25, e27, hm⟩ := hm
        have J63_12 : ∀ (H : Heap) (locs : List Loc) (ls : Array Slot), zW D ca A σ25 H → va_S A s.heap H locs → lv_has ls 5 [] → W p l e ({ frames := 3, cells := 0, slots := 0, locals := 72 } : Room) s m (List.toArray [.ref v0, .int v1, .int v2, .int v3]) below meth c H locs 0 0 (MQ below (zQi r0 D ca A σ') (List.toArray [.ref v0, .int v1, .int v2, .int v3]) s 0 0 A) (F0 m 63 ls [.int y24]) := by
          intro H locs ls hW hS hl
          refine lv_istore (lv' := [(4, .int y24)]) hx hb dX9_has_63 hl (by decide) rfl (fun ls hl => ?_)
          refine lv_iload hx hb dX9_has_65 (lv_at hl 0 rfl) ?_
          refine lv_if_eq (tgt := 74) hx hb dX9_has_67 (by decide) (fun h26 => ?_) (fun h26 => ?_)
          · rw [if_pos h26] at hm
            refine lv_iconst (v := 0) hx hb dX9_has_74 (by decide) ?_
            obtain ⟨hq8, hq9⟩ := Prod.mk.inj (Option.some.inj hm); subst hq8; subst hq9
            exact r_iret C0 hr hlocks hW hS dX9_has_75
          · rw [if_neg h26] at hm
            refine lv_iconst (v := 1) hx hb dX9_has_70 (by decide) ?_
            refine lv_goto (tgt := 75) hx hb dX9_has_71 (by decide) ?_
            obtain ⟨hq8, hq9⟩ := Prod.mk.inj (Option.some.inj hm); subst hq8; subst hq9
            exact r_iret C0 hr hlocks hW hS dX9_has_75
        clear hm
        have hm := e27
        clear e27
        refine lv_if_ne (tgt := 57) hx hb dX9_has_27 (by decide) (fun h12 => ?_) (fun h12 => ?_)
        · rw [if_neg h12] at hm
          refine lv_aload_n hx hb dX9_has_57 rfl (lv_at hl 0 rfl) ?_
          refine lv_iload_n hx hb dX9_has_58 rfl (lv_at hl 1 rfl) ?_
          refine lv_iload_n hx hb dX9_has_59 rfl (lv_at hl 2 rfl) ?_
          replace hm := ob hm; obtain ⟨u14, e15, hm⟩ := hm
          replace hm := o2 hm; obtain ⟨x18, σ17, e16, hm⟩ := hm
          refine z_calli (z_runV (As := [.int v1, .int v2]) (rest := []) (ci := 9) rfl rfl C0 lv_X9_163 (b_X9_couldHave e16) hW hS e15 rfl hl.1 rfl (Nat.le_of_ble_eq_true rfl) dX9_has_60 rfl rfl ⟨Nat.le_of_ble_eq_true rfl, Nat.le_of_ble_eq_true rfl⟩ ⟨Nat.le_refl _, Nat.le_refl _⟩) hS (fun H locs hW hS => ?_)
          obtain ⟨hq1, hq2⟩ := Prod.mk.inj (Option.some.inj hm); subst hq1; subst hq2
          exact J63_12 _ _ _ hW hS (lv_sub hl [] rfl)
        · rw [if_pos h12] at hm
          refine lv_aload_n hx hb dX9_has_30 rfl (lv_at hl 0 rfl) ?_
          replace hm := ob hm; obtain ⟨a19, e20, hm⟩ := hm
          refine r_getA C0 hW fl_X9_7 e20 dX9_has_31 ?_
          refine lv_sipush (v := 165) hx hb dX9_has_34 (by decide) ?_
          refine lv_sipush (v := 1000) hx hb dX9_has_37 (by decide) ?_
          refine lv_iload_n hx hb dX9_has_40 rfl (lv_at hl 1 rfl) ?_
          refine lv_imul hx hb dX9_has_41 ?_
          refine lv_iadd hx hb dX9_has_42 ?_
          refine lv_iload_n hx hb dX9_has_43 rfl (lv_at hl 2 rfl) ?_
          refine lv_iadd hx hb dX9_has_44 ?_
          replace hm := ob hm; obtain ⟨x21, e22, hm⟩ := hm
          refine r_aI C0 hW e22 dX9_has_45 ?_
          refine lv_if_le (tgt := 53) hx hb dX9_has_46 (by decide) (fun h23 => ?_) (fun h23 => ?_)
          · rw [if_pos h23] at hm
            refine lv_iconst (v := 0) hx hb dX9_has_53 (by decide) ?_
            refine lv_goto (tgt := 63) hx hb dX9_has_54 (by decide) ?_
            obtain ⟨hq1, hq2⟩ := Prod.mk.inj (Option.some.inj hm); subst hq1; subst hq2
            exact J63_12 _ _ _ hW hS (lv_sub hl [] rfl)
          · rw [if_neg h23] at hm
            refine lv_iconst (v := 1) hx hb dX9_has_49 (by decide) ?_
            refine lv_goto (tgt := 63) hx hb dX9_has_50 (by decide) ?_
            obtain ⟨hq1, hq2⟩ := Prod.mk.inj (Option.some.inj hm); subst hq1; subst hq2
            exact J63_12 _ _ _ hW hS (lv_sub hl [] rfl)
      · rw [if_pos h11] at hm
        refine lv_iconst (v := (-1)) hx hb dX9_has_24 (by decide) ?_
        obtain ⟨hq8, hq9⟩ := Prod.mk.inj (Option.some.inj hm); subst hq8; subst hq9
        exact r_iret C0 hr hlocks hW hS dX9_has_25
set_option maxHeartbeats 4000000 in
set_option maxRecDepth 100000 in
theorem b_X9_hash {l : Launch} {D : va_G} {ca : Nat → ClassId} {A : Nat → Prop} {N : Nat} {σ : zS} {v0 : Nat} {v1 : Int32} {v2 : Int32} {r0 : Int32} (hm : m_X9_hash N σ v0 v1 v2 = some r0) : Met l yX9_hash (.code yX9_hash cX9_hash 3 (some .int) :: wsL_law) ({ frames := 2, cells := 0, slots := 0, locals := 42 } : Room) (va_Pc [.ref v0, .int v1, .int v2] (zP D ca A σ)) (zQi r0 D ca A σ) 0 0 A := by
  refine zMk (by decide +kernel) (Nat.le_of_ble_eq_true rfl) ?_
  intro p e s m below meth c C0 hr hlocks hin hW ls hl
  have hx := C0.1
  have hb := C0.2.1
  have hS : va_S A s.heap s.heap [] := va_S.rf
  have hl : lv_has ls 3 [(0, .ref v0), (1, .int v1), (2, .int v2)] := hl
  unfold m_X9_hash at hm
  refine lv_iload_n hx hb dX9_hash_0 rfl (lv_at hl 1 rfl) ?_
  replace hm := ob hm; obtain ⟨x2, e1, hm⟩ := hm
  refine z_calli (z_runS (As := [.int v1]) (rest := []) C0 ls_X9_120 (b_X9_isThing e1) hW hS rfl hl.1 rfl (Nat.le_of_ble_eq_true rfl) dX9_hash_1 rfl rfl ⟨Nat.le_of_ble_eq_true rfl, Nat.le_of_ble_eq_true rfl⟩ ⟨Nat.le_refl _, Nat.le_refl _⟩) hS (fun H locs hW hS => ?_)
  refine lv_if_eq (tgt := 25) hx hb dX9_hash_4 (by decide) (fun h3 => ?_) (fun h3 => ?_)
  · rw [if_pos h3] at hm
    refine lv_iconst (v := (-1)) hx hb dX9_hash_25 (by decide) ?_
    cases hm
    exact r_iret C0 hr hlocks hW hS dX9_hash_26
  · rw [if_neg h3] at hm
    refine lv_iload_n hx hb dX9_hash_7 rfl (lv_at hl 2 rfl) ?_
    refine lv_iconst (v := 0) hx hb dX9_hash_8 (by decide) ?_
    refine lv_bipush (v := 9) hx hb dX9_hash_9 (by decide) ?_
    replace hm := ob hm; obtain ⟨x5, e4, hm⟩ := hm
    refine z_calli (z_runS (As := [.int v2, .int 0, .int 9]) (rest := []) C0 ls_X9_49 (b_X9_in e4) hW hS rfl hl.1 rfl (Nat.le_of_ble_eq_true rfl) dX9_hash_11 rfl rfl ⟨Nat.le_of_ble_eq_true rfl, Nat.le_of_ble_eq_true rfl⟩ ⟨Nat.le_refl _, Nat.le_refl _⟩) hS (fun H locs hW hS => ?_)
    refine lv_if_eq (tgt := 25) hx hb dX9_hash_14 (by decide) (fun h6 => ?_) (fun h6 => ?_)
    · rw [if_pos h6] at hm
      refine lv_iconst (v := (-1)) hx hb dX9_hash_25 (by decide) ?_
      cases hm
      exact r_iret C0 hr hlocks hW hS dX9_hash_26
    · rw [if_neg h6] at hm
      refine lv_iload_n hx hb dX9_hash_17 rfl (lv_at hl 1 rfl) ?_
      refine lv_iload_n hx hb dX9_hash_18 rfl (lv_at hl 2 rfl) ?_
      replace hm := ob hm; obtain ⟨x8, e7, hm⟩ := hm
      refine z_calli (z_runS (As := [.int v1, .int v2]) (rest := []) C0 ls_X9_107 (b_X9_hashOf e7) hW hS rfl hl.1 rfl (Nat.le_of_ble_eq_true rfl) dX9_hash_19 rfl rfl ⟨Nat.le_of_ble_eq_true rfl, Nat.le_of_ble_eq_true rfl⟩ ⟨Nat.le_refl _, Nat.le_refl _⟩) hS (fun H locs hW hS => ?_)
      refine lv_goto (tgt := 26) hx hb dX9_hash_22 (by decide) ?_
      cases hm
      exact r_iret C0 hr hlocks hW hS dX9_hash_26
set_option maxHeartbeats 4000000 in
set_option maxRecDepth 100000 in
theorem b_X9_keptAt {l : Launch} {D : va_G} {ca : Nat → ClassId} {A : Nat → Prop} {N : Nat} {σ : zS} {v0 : Nat} {v1 : Int32} {v2 : Int32} {r0 : Int32} (hm : m_X9_keptAt N σ v0 v1 v2 = some r0) : Met l yX9_keptAt (.code yX9_keptAt cX9_keptAt 4 (some .int) :: wsL_law) ({ frames := 2, cells := 0, slots := 0, locals := 43 } : Room) (va_Pc [.ref v0, .int v1, .int v2] (zP D ca A σ)) (zQi r0 D ca A σ) 0 0 A := by
  refine zMk (by decide +kernel) (Nat.le_of_ble_eq_true rfl) ?_
  intro p e s m below meth c C0 hr hlocks hin hW ls hl
  have hx := C0.1
  have hb := C0.2.1
  have hS : va_S A s.heap s.heap [] := va_S.rf
  have hl : lv_has ls 4 [(0, .ref v0), (1, .int v1), (2, .int v2)] := hl
  unfold m_X9_keptAt at hm
  refine lv_aload_n hx hb dX9_keptAt_0 rfl (lv_at hl 0 rfl) ?_
  refine lv_iload_n hx hb dX9_keptAt_1 rfl (lv_at hl 1 rfl) ?_
  replace hm := ob hm; obtain ⟨u1, e2, hm⟩ := hm
  replace hm := ob hm; obtain ⟨x4, e3, hm⟩ := hm
  refine z_calli (z_runV (As := [.int v1]) (rest := []) (ci := 9) rfl rfl C0 lv_X9_116 (b_X9_isTable e3) hW hS e2 rfl hl.1 rfl (Nat.le_of_ble_eq_true rfl) dX9_keptAt_2 rfl rfl ⟨Nat.le_of_ble_eq_true rfl, Nat.le_of_ble_eq_true rfl⟩ ⟨Nat.le_refl _, Nat.le_refl _⟩) hS (fun H locs hW hS => ?_)
  refine lv_if_eq (tgt := 12) hx hb dX9_keptAt_5 (by decide) (fun h5 => ?_) (fun h5 => ?_)
  · rw [if_pos h5] at hm
    refine lv_iconst (v := (-1)) hx hb dX9_keptAt_12 (by decide) ?_
    cases hm
    exact r_iret C0 hr hlocks hW hS dX9_keptAt_13
  · rw [if_neg h5] at hm
    refine lv_iload_n hx hb dX9_keptAt_8 rfl (lv_at hl 2 rfl) ?_
    refine lv_if_ge (tgt := 14) hx hb dX9_keptAt_9 (by decide) (fun h6 => ?_) (fun h6 => ?_)
    · rw [if_pos h6] at hm
      refine lv_bipush (v := 23) hx hb dX9_keptAt_14 (by decide) ?_
      refine lv_iload_n hx hb dX9_keptAt_16 rfl (lv_at hl 1 rfl) ?_
      refine lv_imul hx hb dX9_keptAt_17 ?_
      replace hm := ob hm; obtain ⟨x7, e8, hm⟩ := hm
      refine z_top e8 ?_
      refine lv_istore_n (lv' := [(3, .int x7), (0, .ref v0), (1, .int v1), (2, .int v2)]) hx hb dX9_keptAt_18 rfl hl (by decide) rfl (fun ls hl => ?_)
      refine lv_aload_n hx hb dX9_keptAt_19 rfl (lv_at hl 1 rfl) ?_
      replace hm := ob hm; obtain ⟨a9, e10, hm⟩ := hm
      refine r_getA C0 hW fl_X9_7 e10 dX9_keptAt_20 ?_
      refine lv_iload_n hx hb dX9_keptAt_23 rfl (lv_at hl 0 rfl) ?_
      refine lv_iconst (v := 0) hx hb dX9_keptAt_24 (by decide) ?_
      refine lv_iadd hx hb dX9_keptAt_25 ?_
      replace hm := ob hm; obtain ⟨x11, e12, hm⟩ := hm
      refine r_aI C0 hW e12 dX9_keptAt_26 ?_
      by_cases h13 : x11 = 0
      · rw [if_pos h13] at hm
        refine z_top (congrArg some h13) ?_
        refine lv_lookup (tgt := 52) hx hb dX9_keptAt_27 (by decide) rfl (by decide) ?_
        refine lv_iload_n hx hb dX9_keptAt_52 rfl (lv_at hl 3 rfl) ?_
        refine lv_bipush (v := 31) hx hb dX9_keptAt_53 (by decide) ?_
        refine lv_icmp_le (tgt := 62) hx hb dX9_keptAt_55 (by decide) (fun h14 => ?_) (fun h14 => ?_)
        · rw [if_pos h14] at hm
          refine lv_aload_n hx hb dX9_keptAt_62 rfl (lv_at hl 1 rfl) ?_
          replace hm := ob hm; obtain ⟨a15, e16, hm⟩ := hm
          refine r_getA C0 hW fl_X9_7 e16 dX9_keptAt_63 ?_
          refine lv_iload_n hx hb dX9_keptAt_66 rfl (lv_at hl 0 rfl) ?_
          refine lv_iconst (v := 4) hx hb dX9_keptAt_67 (by decide) ?_
          refine lv_iadd hx hb dX9_keptAt_68 ?_
          replace hm := ob hm; obtain ⟨x17, e18, hm⟩ := hm
          refine r_aI C0 hW e18 dX9_keptAt_69 ?_
          refine lv_iload_n hx hb dX9_keptAt_70 rfl (lv_at hl 3 rfl) ?_
          refine lv_ishr hx hb dX9_keptAt_71 ?_
          refine lv_iconst (v := 1) hx hb dX9_keptAt_72 (by decide) ?_
          refine lv_iand hx hb dX9_keptAt_73 ?_
          cases hm
          exact r_iret C0 hr hlocks hW hS dX9_keptAt_74
        · rw [if_neg h14] at hm
          refine lv_iconst (v := (-1)) hx hb dX9_keptAt_58 (by decide) ?_
          refine lv_goto (tgt := 74) hx hb dX9_keptAt_59 (by decide) ?_
          cases hm
          exact r_iret C0 hr hlocks hW hS dX9_keptAt_74
      · rw [if_neg h13] at hm
        by_cases h19 : x11 = 1
        · rw [if_pos h19] at hm
          refine z_top (congrArg some h19) ?_
          refine lv_lookup (tgt := 75) hx hb dX9_keptAt_27 (by decide) rfl (by decide) ?_
          refine lv_iload_n hx hb dX9_keptAt_75 rfl (lv_at hl 3 rfl) ?_
          refine lv_aload_n hx hb dX9_keptAt_76 rfl (lv_at hl 1 rfl) ?_
          replace hm := ob hm; obtain ⟨a20, e21, hm⟩ := hm
          refine r_getA C0 hW fl_X9_7 e21 dX9_keptAt_77 ?_
          refine lv_iload_n hx hb dX9_keptAt_80 rfl (lv_at hl 0 rfl) ?_
          refine lv_iconst (v := 5) hx hb dX9_keptAt_81 (by decide) ?_
          refine lv_iadd hx hb dX9_keptAt_82 ?_
          replace hm := ob hm; obtain ⟨x22, e23, hm⟩ := hm
          refine r_aI C0 hW e23 dX9_keptAt_83 ?_
          refine lv_icmp_ge (tgt := 101) hx hb dX9_keptAt_84 (by decide) (fun h24 => ?_) (fun h24 => ?_)
          · rw [if_pos h24] at hm
            refine lv_bipush (v := (-4)) hx hb dX9_keptAt_101 (by decide) ?_
            cases hm
            exact r_iret C0 hr hlocks hW hS dX9_keptAt_103
          · rw [if_neg h24] at hm
            refine lv_aload_n hx hb dX9_keptAt_87 rfl (lv_at hl 1 rfl) ?_
            replace hm := ob hm; obtain ⟨a25, e26, hm⟩ := hm
            refine r_getA C0 hW fl_X9_7 e26 dX9_keptAt_88 ?_
            refine lv_iload_n hx hb dX9_keptAt_91 rfl (lv_at hl 0 rfl) ?_
            refine lv_bipush (v := 6) hx hb dX9_keptAt_92 (by decide) ?_
            refine lv_iadd hx hb dX9_keptAt_94 ?_
            refine lv_iload_n hx hb dX9_keptAt_95 rfl (lv_at hl 3 rfl) ?_
            refine lv_iadd hx hb dX9_keptAt_96 ?_
            replace hm := ob hm; obtain ⟨x27, e28, hm⟩ := hm
            refine r_aI C0 hW e28 dX9_keptAt_97 ?_
            refine lv_goto (tgt := 103) hx hb dX9_keptAt_98 (by decide) ?_
            cases hm
            exact r_iret C0 hr hlocks hW hS dX9_keptAt_103
        · rw [if_neg h19] at hm
          refine lv_lookup (tgt := 104) (off := 77) hx hb dX9_keptAt_27 (by decide) (show Op.lookupswitch.offset [(0, 25), (1, 48)] 77 _ = 77 from (lv_osw h13 (by decide)).trans ((lv_osw h19 (by decide)).trans (rfl))) (by decide) ?_
          refine lv_iload_n hx hb dX9_keptAt_104 rfl (lv_at hl 3 rfl) ?_
          refine lv_bipush (v := 7) hx hb dX9_keptAt_105 (by decide) ?_
          refine lv_icmp_le (tgt := 114) hx hb dX9_keptAt_107 (by decide) (fun h29 => ?_) (fun h29 => ?_)
          · rw [if_pos h29] at hm
            refine lv_aload_n hx hb dX9_keptAt_114 rfl (lv_at hl 1 rfl) ?_
            replace hm := ob hm; obtain ⟨a30, e31, hm⟩ := hm
            refine r_getA C0 hW fl_X9_7 e31 dX9_keptAt_115 ?_
            refine lv_iload_n hx hb dX9_keptAt_118 rfl (lv_at hl 0 rfl) ?_
            refine lv_bipush (v := 14) hx hb dX9_keptAt_119 (by decide) ?_
            refine lv_iadd hx hb dX9_keptAt_121 ?_
            refine lv_iload_n hx hb dX9_keptAt_122 rfl (lv_at hl 3 rfl) ?_
            refine lv_iadd hx hb dX9_keptAt_123 ?_
            replace hm := ob hm; obtain ⟨x32, e33, hm⟩ := hm
            refine r_aI C0 hW e33 dX9_keptAt_124 ?_
            cases hm
            exact r_iret C0 hr hlocks hW hS dX9_keptAt_125
          · rw [if_neg h29] at hm
            refine lv_iconst (v := (-1)) hx hb dX9_keptAt_110 (by decide) ?_
            refine lv_goto (tgt := 125) hx hb dX9_keptAt_111 (by decide) ?_
            cases hm
            exact r_iret C0 hr hlocks hW hS dX9_keptAt_125
    · rw [if_neg h6] at hm
      refine lv_iconst (v := (-1)) hx hb dX9_keptAt_12 (by decide) ?_
      cases hm
      exact r_iret C0 hr hlocks hW hS dX9_keptAt_13
set_option maxHeartbeats 4000000 in
set_option maxRecDepth 100000 in
theorem b_X9_logAt {l : Launch} {D : va_G} {ca : Nat → ClassId} {A : Nat → Prop} {N : Nat} {σ : zS} {v0 : Nat} {v1 : Int32} {v2 : Int32} {r0 : Int32} (hm : m_X9_logAt N σ v0 v1 v2 = some r0) : Met l yX9_logAt (.code yX9_logAt cX9_logAt 3 (some .int) :: wsL_law) ({ frames := 1, cells := 0, slots := 0, locals := 22 } : Room) (va_Pc [.ref v0, .int v1, .int v2] (zP D ca A σ)) (zQi r0 D ca A σ) 0 0 A := by
  refine zMk (by decide +kernel) (Nat.le_of_ble_eq_true rfl) ?_
  intro p e s m below meth c C0 hr hlocks hin hW ls hl
  have hx := C0.1
  have hb := C0.2.1
  have hS : va_S A s.heap s.heap [] := va_S.rf
  have hl : lv_has ls 3 [(0, .ref v0), (1, .int v1), (2, .int v2)] := hl
  unfold m_X9_logAt at hm
  refine lv_iload_n hx hb dX9_logAt_0 rfl (lv_at hl 1 rfl) ?_
  refine lv_if_lt (tgt := 13) hx hb dX9_logAt_1 (by decide) (fun h1 => ?_) (fun h1 => ?_)
  · rw [if_pos h1] at hm
    refine lv_iconst (v := (-1)) hx hb dX9_logAt_13 (by decide) ?_
    cases hm
    exact r_iret C0 hr hlocks hW hS dX9_logAt_14
  · rw [if_neg h1] at hm
    refine lv_iload_n hx hb dX9_logAt_4 rfl (lv_at hl 2 rfl) ?_
    refine lv_iconst (v := 0) hx hb dX9_logAt_5 (by decide) ?_
    refine lv_iconst (v := 2) hx hb dX9_logAt_6 (by decide) ?_
    replace hm := ob hm; obtain ⟨x3, e2, hm⟩ := hm
    refine z_calli (z_runS (As := [.int v2, .int 0, .int 2]) (rest := []) C0 ls_X9_49 (b_X9_in e2) hW hS rfl hl.1 rfl (Nat.le_of_ble_eq_true rfl) dX9_logAt_7 rfl rfl ⟨Nat.le_of_ble_eq_true rfl, Nat.le_of_ble_eq_true rfl⟩ ⟨Nat.le_refl _, Nat.le_refl _⟩) hS (fun H locs hW hS => ?_)
    refine lv_if_ne (tgt := 15) hx hb dX9_logAt_10 (by decide) (fun h4 => ?_) (fun h4 => ?_)
    · rw [if_neg h4] at hm
      refine lv_iload_n hx hb dX9_logAt_15 rfl (lv_at hl 1 rfl) ?_
      refine lv_aload_n hx hb dX9_logAt_16 rfl (lv_at hl 0 rfl) ?_
      replace hm := ob hm; obtain ⟨a5, e6, hm⟩ := hm
      refine r_getA C0 hW fl_X9_7 e6 dX9_logAt_17 ?_
      refine lv_sipush (v := 140) hx hb dX9_logAt_20 (by decide) ?_
      replace hm := ob hm; obtain ⟨x7, e8, hm⟩ := hm
      refine r_aI C0 hW e8 dX9_logAt_23 ?_
      refine lv_icmp_ge (tgt := 55) hx hb dX9_logAt_24 (by decide) (fun h9 => ?_) (fun h9 => ?_)
      · rw [if_pos h9] at hm
        refine lv_bipush (v := (-4)) hx hb dX9_logAt_55 (by decide) ?_
        cases hm
        exact r_iret C0 hr hlocks hW hS dX9_logAt_57
      · rw [if_neg h9] at hm
        refine lv_aload_n hx hb dX9_logAt_27 rfl (lv_at hl 0 rfl) ?_
        replace hm := ob hm; obtain ⟨a10, e11, hm⟩ := hm
        refine r_getA C0 hW fl_X9_7 e11 dX9_logAt_28 ?_
        refine lv_sipush (v := 141) hx hb dX9_logAt_31 (by decide) ?_
        refine lv_iconst (v := 3) hx hb dX9_logAt_34 (by decide) ?_
        refine lv_aload_n hx hb dX9_logAt_35 rfl (lv_at hl 0 rfl) ?_
        replace hm := ob hm; obtain ⟨a12, e13, hm⟩ := hm
        refine r_getA C0 hW fl_X9_7 e13 dX9_logAt_36 ?_
        refine lv_sipush (v := 140) hx hb dX9_logAt_39 (by decide) ?_
        replace hm := ob hm; obtain ⟨x14, e15, hm⟩ := hm
        refine r_aI C0 hW e15 dX9_logAt_42 ?_
        refine lv_iconst (v := 1) hx hb dX9_logAt_43 (by decide) ?_
        refine lv_isub hx hb dX9_logAt_44 ?_
        refine lv_iload_n hx hb dX9_logAt_45 rfl (lv_at hl 1 rfl) ?_
        refine lv_isub hx hb dX9_logAt_46 ?_
        refine lv_imul hx hb dX9_logAt_47 ?_
        refine lv_iadd hx hb dX9_logAt_48 ?_
        refine lv_iload_n hx hb dX9_logAt_49 rfl (lv_at hl 2 rfl) ?_
        refine lv_iadd hx hb dX9_logAt_50 ?_
        replace hm := ob hm; obtain ⟨x16, e17, hm⟩ := hm
        refine r_aI C0 hW e17 dX9_logAt_51 ?_
        refine lv_goto (tgt := 57) hx hb dX9_logAt_52 (by decide) ?_
        cases hm
        exact r_iret C0 hr hlocks hW hS dX9_logAt_57
    · rw [if_pos h4] at hm
      refine lv_iconst (v := (-1)) hx hb dX9_logAt_13 (by decide) ?_
      cases hm
      exact r_iret C0 hr hlocks hW hS dX9_logAt_14
