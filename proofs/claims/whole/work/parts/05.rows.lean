/-! The world that holds the store, and own rows over it. -/
-- the world
def toE (ca : Nat → ClassId) (e : zE) : va_E := match e with
  | .inl a => .inl (ca a.1, a.2)
  | .inr o => .inr o
def zf (ca : Nat → ClassId) (σ : zS) : Nat → va_E := fun a => match σ a with
  | some e => toE ca e
  | none => .inr (0, [])
def zW (D : va_G) (ca : Nat → ClassId) (A : Nat → Prop) (σ : zS) (H : Heap) : Prop := ∃ L : List Nat, (∀ q, q ∈ L ↔ ∃ e, σ q = some e) ∧ va_P D vwCl (va_pl L (zf ca σ)) H ∧ va_D A (va_pl L (zf ca σ))
abbrev zTy (ca : Nat → ClassId) : List (ClassId × FieldType) := [(ca 0, .char), (ca 1, .int), (ca 2, .object "RoughTables$State"), (ca 3, .object "RoughTables$Table")]
theorem zf_up (ca : Nat → ClassId) (σ : zS) (q : Nat) (e : zE) (a : Nat) : va_up (zf ca σ) q (toE ca e) a = zf ca (zup σ q e) a := by
  unfold va_up zf zup
  by_cases h : a = q
  · rw [if_pos h, if_pos h]
  · rw [if_neg h, if_neg h]
theorem zf_at {ca : Nat → ClassId} {σ : zS} {q : Nat} {e : zE} (h : σ q = some e) : zf ca σ q = toE ca e := by
  unfold zf
  rw [h]
theorem zW.get {D : va_G} {ca : Nat → ClassId} {L : List Nat} {σ : zS} {q : Nat} {e : zE} (hL : ∀ q, q ∈ L ↔ ∃ e, σ q = some e) (h : σ q = some e) : q ∈ L ∧ ∃ k : Nat, (va_pl L (zf ca σ))[k]? = some (q, toE ca e) := by
  have hm : q ∈ L := (hL q).mpr ⟨e, h⟩
  obtain ⟨k, hk⟩ := va_pl_get (X := []) (f := zf ca σ) hm
  rw [zf_at h] at hk
  exact ⟨hm, k, hk⟩
theorem zW.put {D : va_G} {ca : Nat → ClassId} {A : Nat → Prop} {L : List Nat} {σ : zS} {H : Heap} {q k : Nat} {e e1 : zE} (hL : ∀ q, q ∈ L ↔ ∃ e, σ q = some e) (hD0 : va_D A (va_pl L (zf ca σ))) (h : σ q = some e) (hk : (va_pl L (zf ca σ))[k]? = some (q, toE ca e)) (hP : va_P D vwCl ((va_pl L (zf ca σ)).set k (q, toE ca e1)) H) (hD : va_D A ((va_pl L (zf ca σ)).set k (q, toE ca e1))) : zW D ca A (zup σ q e1) H := by
  have hm : q ∈ L := (hL q).mpr ⟨e, h⟩
  have hk' : ([] ++ va_pl L (zf ca σ))[k]? = some (q, zf ca σ q) := by rw [zf_at h]; exact hk
  have e2 : (va_pl L (zf ca σ)).set k (q, toE ca e1) = va_pl L (zf ca (zup σ q e1)) := (va_pl_set (X := []) (e := toE ca e1) hD0 hm hk').trans (va_pl_congr (zf_up ca σ q e1))
  rw [e2] at hP hD
  refine ⟨L, fun x => ?_, hP, hD⟩
  unfold zup
  by_cases hx : x = q
  · rw [if_pos hx]
    exact ⟨fun _ => ⟨_, rfl⟩, fun _ => by rw [hx]; exact hm⟩
  · rw [if_neg hx]
    exact hL x
theorem zW.push {D : va_G} {ca : Nat → ClassId} {A : Nat → Prop} {L : List Nat} {σ : zS} {H H1 : Heap} {q : Nat} {e1 : zE} (hL : ∀ q, q ∈ L ↔ ∃ e, σ q = some e) (hP : va_P D vwCl (va_pl L (zf ca σ) ++ [(q, toE ca e1)]) H1) (hD : va_D A (va_pl L (zf ca σ) ++ [(q, toE ca e1)])) : zW D ca A (zup σ q e1) H1 ∧ σ q = none := by
  have hn : q ∉ L := va_pl_fresh2 (X := []) hD
  have e2 : va_pl L (zf ca σ) ++ [(q, toE ca e1)] = va_pl (L ++ [q]) (zf ca (zup σ q e1)) := (va_pl_push hn).trans (va_pl_congr (zf_up ca σ q e1))
  rw [e2] at hP hD
  refine ⟨⟨L ++ [q], fun x => ?_, hP, hD⟩, ?_⟩
  · unfold zup
    by_cases hx : x = q
    · rw [if_pos hx]
      exact ⟨fun _ => ⟨_, rfl⟩, fun _ => by rw [hx]; simp⟩
    · rw [if_neg hx, List.mem_append, List.mem_singleton]
      exact ⟨fun h => (hL x).mp (h.resolve_right hx), fun h => Or.inl ((hL x).mpr h)⟩
  · cases h : σ q with
    | none => rfl
    | some e => exact absurd ((hL q).mpr ⟨e, h⟩) hn
-- the words of nest mates: not among the words that every call hands on
def zNl : List (String × Nat × MethodName × String) := [(RX4, 19, yX2_init, "RoughTables"), (RX4, 24, yX5_init, "RoughTables"), (RX5, 11, yX3_init, "RoughTables"), (RX8, 25, yX6_init, "RoughTables"), (RX8, 32, yX0_init, "RoughTables"), (RX8, 39, yX7_init, "RoughTables"), (RX7, 20, yX0_init, "RoughTables"), (RX8, 46, yX3_init, "RoughTables"), (RX4, 64, yX8_within, "RoughTables"), (RX4, 68, yX8_isThing, "RoughTables"), (RX3, 46, yX8_hashOf, "RoughTables"), (RX3, 67, yX8_rankOf, "RoughTables"), (RX5, 60, yX8_isThing, "RoughTables"), (RX3, 93, yX8_spread, "RoughTables")]
def zN (U : State) : Prop := (∀ w ∈ zNl, va_Nw (.methodLinkNest w.1 w.2.1 w.2.2.1 w.2.2.2) U) ∧ va_AO "RoughTables$State" U ∧ va_AO "RoughTables$Table" U
theorem zN.warm {s U : State} (hW : s.WarmedH U.vm) (h : zN s) : zN U := ⟨fun w hw => va_Nw.warmM hW (h.1 w hw), va_AO.moved hW.alike h.2.1, va_AO.moved hW.alike h.2.2⟩
theorem zN.same {u U : State} (hv : u.vm = U.vm) (h : zN u) : zN U := ⟨fun w hw => va_Nw.same rfl hv (h.1 w hw), va_AO.moved (by rw [hv]; exact Vm.Alike.refl _) h.2.1, va_AO.moved (by rw [hv]; exact Vm.Alike.refl _) h.2.2⟩
theorem zgood : wsL_law.all goodWord = true := by decide +kernel
-- a method's start and its ends
def zP (D : va_G) (ca : Nat → ClassId) (A : Nat → Prop) (σ : zS) (U : State) : Prop := zW D ca A σ U.heap ∧ va_K D vwCl (zTy ca) U ∧ zN U ∧ ∀ q, U.heap.size ≤ q → A q
abbrev zQi (r0 : Int32) (D : va_G) (ca : Nat → ClassId) (A : Nat → Prop) (σ : zS) : Array Value → State → Outcome → State → Prop := va_Qi (fun (r : Int32) (_ : Unit) => r = r0) (fun _ t => zW D ca A σ t.heap) A
abbrev zQv (D : va_G) (ca : Nat → ClassId) (A : Nat → Prop) (σ : zS) : Array Value → State → Outcome → State → Prop := va_Qv (fun (_ : Unit) => True) (fun _ t => zW D ca A σ t.heap) A
abbrev zQq (r0 : Option Nat) (D : va_G) (ca : Nat → ClassId) (A : Nat → Prop) (σ : zS) : Array Value → State → Outcome → State → Prop := va_Qq (fun (r : Option Nat) (_ : Unit) => r = r0) (fun _ t => zW D ca A σ t.heap) A
theorem zPc_blind (av : List Value) (D : va_G) (ca : Nat → ClassId) (A : Nat → Prop) (σ : zS) : FrameBlind (va_Pc av (zP D ca A σ)) := fun a U g mk h => ⟨h.1, h.2.1, va_K.moved (u := U) (U := U.calling g mk a) (Vm.Alike.refl U.vm) h.2.2.1, zN.same (u := U) (U := U.calling g mk a) rfl h.2.2.2.1, h.2.2.2.2⟩
-- what holds all along a method's walk
def zC (p : Program) (s : State) (m : MethodId) (args : Array Value) (c : Code) (own : String) (cc : ByteArray) (nL : Nat) (D : va_G) (ca : Nat → ClassId) (A : Nat → Prop) : Prop :=
  p.tables.exec = Jvm.exec ∧ c.code = cc ∧ c.maxLocals = nL ∧ s.vm.findClass own = some m.cls ∧ (∀ w ∈ wsL_law, w.before args s = true) ∧ va_K D vwCl (zTy ca) s ∧ zN s ∧ ∀ q, s.heap.size ≤ q → A q
-- what the tables say of a field's link, of a call's
def zFL (own : String) (idx ci k : Nat) (ty : FieldType) (fin : Bool) : Prop := ∃ (C : String) (T : u_T) (N : Nat) (tyf : Nat → FieldType), vwCl[ci]? = some (C, T, N) ∧ (∀ w ∈ u_ws C T N, w ∈ wsL_law) ∧ (∀ j, j < N → parseFieldDescriptor (T j).2.2.1 = some (tyf j)) ∧ (∀ a, a < N → ∀ b, b < N → a ≠ b → (T a).2.1 ≠ (T b).2.1) ∧ k < N ∧ (Cond.fieldLink own idx C (T k).2.1 (T k).2.2.1) ∈ wsL_law ∧ (T k).1 = C ∧ (T k).2.2.2 = fin ∧ parseFieldDescriptor (T k).2.2.1 = some ty
abbrev zMH (y : MethodName) (n : Nat) : Prop := y.cls ≠ "java/lang/invoke/MethodHandle" ∧ y.cls ≠ "java/lang/invoke/VarHandle" ∧ (parseMethodDescriptor y.desc).map (fun d => d.parameters.length) = some n
def zLV (own : String) (idx : Nat) (y : MethodName) (cy : ByteArray) (ml : Nat) (ret : Option FieldType) (n : Nat) : Prop := Cond.methodLink own idx y ∈ wsL_law ∧ Cond.instanceMethod y ∈ wsL_law ∧ Cond.selects y.cls y y ∈ wsL_law ∧ Cond.initialized y.cls ∈ wsL_law ∧ Cond.code y cy ml ret ∈ wsL_law ∧ zMH y n
def zLS (own : String) (idx : Nat) (y : MethodName) (cy : ByteArray) (ml : Nat) (ret : Option FieldType) (n : Nat) : Prop := Cond.methodLink own idx y ∈ wsL_law ∧ Cond.static y ∈ wsL_law ∧ Cond.initialized y.cls ∈ wsL_law ∧ Cond.code y cy ml ret ∈ wsL_law ∧ zMH y n
def zLN (own : String) (idx : Nat) (y : MethodName) (host : String) (cy : ByteArray) (ml : Nat) (ret : Option FieldType) (n : Nat) : Prop := (own, idx, y, host) ∈ zNl ∧ Cond.static y ∈ wsL_law ∧ Cond.initialized y.cls ∈ wsL_law ∧ Cond.code y cy ml ret ∈ wsL_law ∧ zMH y n
theorem zgoodIn {ws : List Cond} (h : ∀ w ∈ ws, w ∈ wsL_law) : GoodIn wsL_law ws := fun w hw => ⟨h w hw, good_of_word (List.all_eq_true.mp zgood w (h w hw))⟩
theorem zwin {w : Cond} (h : w ∈ wsL_law) : ∀ x ∈ w :: wsL_law, x ∈ wsL_law := fun x hx => by
  rcases List.mem_cons.mp hx with rfl | hx
  · exact h
  · exact hx
theorem zMk {l : Launch} {y : MethodName} {cc : ByteArray} {maxL : Nat} {ret : Option FieldType} {rm : Room} {av : List Value} {D : va_G} {ca : Nat → ClassId} {A : Nat → Prop} {σ : zS} {Qc : Array Value → State → Outcome → State → Prop} {mc ms : Nat} (hy : plainName y.cls = true) (hfit : (lg_sl av).length ≤ maxL)
    (body : ∀ (p : Program) (e : Env) (s : State) (m : MethodId) (below : List Frame) (meth : Method) (c : Code), zC p s m av.toArray c y.cls cc maxL D ca A → meth.sig.returnType = ret → meth.locks = false → meth.name = y.name → zW D ca A σ s.heap → ∀ ls : Array Slot, lv_has ls maxL (lv_args 0 av) → W p l e rm s m av.toArray below meth c s.heap [] 0 0 (MQ below Qc av.toArray s mc ms A) (F0 m 0 ls [])) :
    Met l y (.code y cc maxL ret :: wsL_law) rm (va_Pc av (zP D ca A σ)) Qc mc ms A := by
  refine Met.ofW (cc := cc) (maxL := maxL) (ret := ret) hy rfl ?_
  intro p e s m args below meth c s₁ B hml hv
  obtain ⟨rfl, hW, hK, hN, hA⟩ := hv
  have hts := atoms_spec (ws := Cond.code y cc maxL ret :: wsL_law) B.pre
  have hl := lv_entry av (n := maxL) hfit
  rw [lg_entry_eq]
  exact body p e s m below meth c ⟨B.exec, B.bytes, hml, findClass_of_methodNamed B.named, fun w hw => hts w (List.mem_cons_of_mem _ hw), hK, hN, hA⟩ B.returns B.notSynchronized (name_of_methodNamed B.named B.method).1 hW _ hl
theorem zMkF {l : Launch} {y : MethodName} {cc : ByteArray} {maxL : Nat} {ret : Option FieldType} {rm : Room} {av : List Value} {D : va_G} {ca : Nat → ClassId} {A : Nat → Prop} {σ : zS} {Qc : Array Value → State → Outcome → State → Prop} {mc ms : Nat} (hy : plainFor y = true) (hfit : (lg_sl av).length ≤ maxL)
    (body : ∀ (p : Program) (e : Env) (s : State) (m : MethodId) (below : List Frame) (meth : Method) (c : Code), zC p s m av.toArray c y.cls cc maxL D ca A → meth.sig.returnType = ret → meth.locks = false → meth.name = y.name → zW D ca A σ s.heap → ∀ ls : Array Slot, lv_has ls maxL (lv_args 0 av) → W p l e rm s m av.toArray below meth c s.heap [] 0 0 (MQ below Qc av.toArray s mc ms A) (F0 m 0 ls [])) :
    Met l y (.code y cc maxL ret :: wsL_law) rm (va_Pc av (zP D ca A σ)) Qc mc ms A := by
  refine va_MetF (cc := cc) (maxL := maxL) (ret := ret) hy rfl ?_
  intro p e s m args below meth c s₁ B hml hv
  obtain ⟨rfl, hW, hK, hN, hA⟩ := hv
  have hts := atoms_spec (ws := Cond.code y cc maxL ret :: wsL_law) B.pre
  have hl := lv_entry av (n := maxL) hfit
  rw [lg_entry_eq]
  exact body p e s m below meth c ⟨B.exec, B.bytes, hml, findClass_of_methodNamed B.named, fun w hw => hts w (List.mem_cons_of_mem _ hw), hK, hN, hA⟩ B.returns B.notSynchronized (name_of_methodNamed B.named B.method).1 hW _ hl
section ZR
variable {p : Program} {l : Launch} {e : Env} {R : Room} {s : State} {m : MethodId} {args : Array Value} {below : List Frame} {meth : Method} {c : Code} {H : Heap} {locs : List Loc} {cells slots : Nat} {Q : State → Prop}
variable {cc : ByteArray} {own : String} {nL pc idx ci k q : Nat} {ls : Array Slot} {rest st : List Value} {D : va_G} {ca : Nat → ClassId} {A : Nat → Prop} {σ σ' : zS}
theorem r_getV {v : Value} {fs : List Value} {ty : FieldType} {fin : Bool} (C0 : zC p s m args c own cc nL D ca A) (hW : zW D ca A σ H) (lk : zFL own idx ci k ty fin) (hσ : σ q = some (.inr (ci, fs))) (hv : fs[k]? = some v) (d : decode cc pc = .ok (.getfield idx, 3))
    (kk : W p l e R s m args below meth c H locs cells slots Q (F0 m (pc + 3) ls (v :: rest))) : W p l e R s m args below meth c H locs cells slots Q (F0 m pc ls (.ref q :: rest)) := by
  obtain ⟨L, hL, hP, hD⟩ := hW
  obtain ⟨hx, hb, hml, hown, hts, hK, hN, hA⟩ := C0
  obtain ⟨C, T, N, tyf, l1, l2, l3, l4, l5, l6, l7, l8, l9⟩ := lk
  obtain ⟨hm, i, hi⟩ := zW.get (D := D) (ca := ca) hL hσ
  exact va_get (D := D) (ci := ci) (C := C) (T := T) (N := N) hx hb hts l2 hown hK hP i hi l1 k l5 (hts _ l6) (fun x h => by rw [l7] at h; exact h) hv d kk
theorem r_getI {x : Int32} {ty : FieldType} {fin : Bool} (C0 : zC p s m args c own cc nL D ca A) (hW : zW D ca A σ H) (lk : zFL own idx ci k ty fin) (hv : gI σ ci k q = some x) (d : decode cc pc = .ok (.getfield idx, 3))
    (kk : W p l e R s m args below meth c H locs cells slots Q (F0 m (pc + 3) ls (.int x :: rest))) : W p l e R s m args below meth c H locs cells slots Q (F0 m pc ls (.ref q :: rest)) := by
  unfold gI at hv
  split at hv
  · rename_i c1 fs hσ
    split at hv
    · rename_i hc
      subst hc
      split at hv
      · rename_i y hy
        cases hv
        exact r_getV C0 hW lk hσ hy d kk
      · cases hv
    · cases hv
  · cases hv
theorem r_getA {x : Nat} {ty : FieldType} {fin : Bool} (C0 : zC p s m args c own cc nL D ca A) (hW : zW D ca A σ H) (lk : zFL own idx ci k ty fin) (hv : gA σ ci k q = some x) (d : decode cc pc = .ok (.getfield idx, 3))
    (kk : W p l e R s m args below meth c H locs cells slots Q (F0 m (pc + 3) ls (.ref x :: rest))) : W p l e R s m args below meth c H locs cells slots Q (F0 m pc ls (.ref q :: rest)) := by
  unfold gA at hv
  split at hv
  · rename_i c1 fs hσ
    split at hv
    · rename_i hc
      subst hc
      split at hv
      · rename_i y hy
        cases hv
        exact r_getV C0 hW lk hσ hy d kk
      · cases hv
    · cases hv
  · cases hv
theorem r_putV {v : Value} {ty : FieldType} (C0 : zC p s m args c own cc nL D ca A) (hW : zW D ca A σ H) (hS : va_S A s.heap H locs) (lk : zFL own idx ci k ty false) (hn : narrow ty v = v) (hfit : fits ty v = true) (hv : sV σ ci k q v = some σ') (d : decode cc pc = .ok (.putfield idx, 3))
    (kk : ∀ (H1 : Heap) (locs1 : List Loc), zW D ca A σ' H1 → va_S A s.heap H1 locs1 → W p l e R s m args below meth c H1 locs1 cells slots Q (F0 m (pc + 3) ls rest)) : W p l e R s m args below meth c H locs cells slots Q (F0 m pc ls (v :: .ref q :: rest)) := by
  obtain ⟨L, hL, hP, hD⟩ := hW
  obtain ⟨hx, hb, hml, hown, hts, hK, hN, hA⟩ := C0
  obtain ⟨C, T, N, tyf, l1, l2, l3, l4, l5, l6, l7, l8, l9⟩ := lk
  unfold sV at hv
  split at hv
  · rename_i c1 fs hσ
    split at hv
    · rename_i hc
      obtain ⟨hc, hk⟩ := hc
      subst hc
      cases hv
      obtain ⟨hm, i, hi⟩ := zW.get (D := D) (ca := ca) hL hσ
      exact va_put (D := D) (ci := c1) (C := C) (T := T) (N := N) hx hb hts l2 tyf l3 l4 hown hK hP hD hS i hi l1 k l5 (hts _ l6) (fun x h => by rw [l7] at h; exact h) l8 l9 hn hfit hk d (fun H1 locs1 hP1 hD1 hS1 => kk H1 locs1 (zW.put hL hD hσ hi hP1 hD1) hS1)
    · cases hv
  · cases hv
theorem r_putI {x : Int32} (C0 : zC p s m args c own cc nL D ca A) (hW : zW D ca A σ H) (hS : va_S A s.heap H locs) (lk : zFL own idx ci k .int false) (hv : sI σ ci k q x = some σ') (d : decode cc pc = .ok (.putfield idx, 3))
    (kk : ∀ (H1 : Heap) (locs1 : List Loc), zW D ca A σ' H1 → va_S A s.heap H1 locs1 → W p l e R s m args below meth c H1 locs1 cells slots Q (F0 m (pc + 3) ls rest)) : W p l e R s m args below meth c H locs cells slots Q (F0 m pc ls (.int x :: .ref q :: rest)) := r_putV C0 hW hS lk rfl rfl hv d kk
theorem r_putZ {x y : Int32} (C0 : zC p s m args c own cc nL D ca A) (hW : zW D ca A σ H) (hS : va_S A s.heap H locs) (lk : zFL own idx ci k .boolean false) (hc : ckZ x = some y) (hv : sI σ ci k q y = some σ') (d : decode cc pc = .ok (.putfield idx, 3))
    (kk : ∀ (H1 : Heap) (locs1 : List Loc), zW D ca A σ' H1 → va_S A s.heap H1 locs1 → W p l e R s m args below meth c H1 locs1 cells slots Q (F0 m (pc + 3) ls rest)) : W p l e R s m args below meth c H locs cells slots Q (F0 m pc ls (.int x :: .ref q :: rest)) := by
  unfold ckZ at hc
  split at hc
  · rename_i h
    cases hc
    rcases h with rfl | rfl
    · exact r_putV C0 hW hS lk rfl rfl hv d kk
    · exact r_putV C0 hW hS lk rfl rfl hv d kk
  · cases hc
theorem nar_c {x : Int32} (h : (x.toUInt32 % 65536).toInt32 = x) : narrow .char (.int x) = .int x ∧ fits .char (.int x) = true := by
  have h1 := pk_nc x
  have h2 := pk_fc x
  rw [h] at h1 h2
  exact ⟨h1, h2⟩
theorem r_putC {x y : Int32} (C0 : zC p s m args c own cc nL D ca A) (hW : zW D ca A σ H) (hS : va_S A s.heap H locs) (lk : zFL own idx ci k .char false) (hc : ckC x = some y) (hv : sI σ ci k q y = some σ') (d : decode cc pc = .ok (.putfield idx, 3))
    (kk : ∀ (H1 : Heap) (locs1 : List Loc), zW D ca A σ' H1 → va_S A s.heap H1 locs1 → W p l e R s m args below meth c H1 locs1 cells slots Q (F0 m (pc + 3) ls rest)) : W p l e R s m args below meth c H locs cells slots Q (F0 m pc ls (.int x :: .ref q :: rest)) := by
  unfold ckC at hc
  split at hc
  · rename_i h
    cases hc
    exact r_putV C0 hW hS lk (nar_c h).1 (nar_c h).2 hv d kk
  · cases hc
theorem r_putA {x : Nat} {ty : FieldType} (C0 : zC p s m args c own cc nL D ca A) (hin : meth.name = "<init>") (hown2 : ∀ C T N, vwCl[ci]? = some (C, T, N) → C = own) (hW : zW D ca A σ H) (hS : va_S A s.heap H locs) (lk : zFL own idx ci k ty true) (hn : narrow ty (.ref x) = .ref x) (hfit : fits ty (.ref x) = true) (hv : sA σ ci k q x = some σ') (d : decode cc pc = .ok (.putfield idx, 3))
    (kk : ∀ (H1 : Heap) (locs1 : List Loc), zW D ca A σ' H1 → va_S A s.heap H1 locs1 → W p l e R s m args below meth c H1 locs1 cells slots Q (F0 m (pc + 3) ls rest)) : W p l e R s m args below meth c H locs cells slots Q (F0 m pc ls (.ref x :: .ref q :: rest)) := by
  obtain ⟨L, hL, hP, hD⟩ := hW
  obtain ⟨hx, hb, hml, hown, hts, hK, hN, hA⟩ := C0
  obtain ⟨C, T, N, tyf, l1, l2, l3, l4, l5, l6, l7, l8, l9⟩ := lk
  unfold sA sV at hv
  split at hv
  · rename_i c1 fs hσ
    split at hv
    · rename_i hc
      obtain ⟨hc, hk⟩ := hc
      subst hc
      cases hv
      obtain ⟨hm, i, hi⟩ := zW.get (D := D) (ca := ca) hL hσ
      exact va_putF (D := D) (ci := c1) (C := C) (T := T) (N := N) hx hb hts l2 tyf l3 l4 hown hK hP hD hS i hi l1 k l5 (hts _ l6) (fun x h => by rw [l7] at h; exact h) l8 hin (l7.trans (hown2 C T N l1)) l9 hn hfit hk d (fun H1 locs1 hP1 hD1 hS1 => kk H1 locs1 (zW.put hL hD hσ hi hP1 hD1) hS1)
    · cases hv
  · cases hv
theorem r_aI {i x : Int32} (C0 : zC p s m args c own cc nL D ca A) (hW : zW D ca A σ H) (hv : aI 1 σ q i = some x) (d : decode cc pc = .ok (.iaload, 1))
    (kk : W p l e R s m args below meth c H locs cells slots Q (F0 m (pc + 1) ls (.int x :: rest))) : W p l e R s m args below meth c H locs cells slots Q (F0 m pc ls (.int i :: .ref q :: rest)) := by
  obtain ⟨L, hL, hP, hD⟩ := hW
  obtain ⟨hx, hb, hml, hown, hts, hK, hN, hA⟩ := C0
  unfold aI at hv
  split at hv
  · rename_i c1 n f hσ
    split at hv
    · rename_i hc
      obtain ⟨hc, hin⟩ := hc
      subst hc
      cases hv
      obtain ⟨hm, k, hk⟩ := zW.get (D := D) (ca := ca) hL hσ
      exact va_iald (D := D) (a := q) hx hb hK hP k 1 hk rfl hin d kk
    · cases hv
  · cases hv
theorem r_aC {i x : Int32} (C0 : zC p s m args c own cc nL D ca A) (hW : zW D ca A σ H) (hv : aI 0 σ q i = some x) (d : decode cc pc = .ok (.caload, 1))
    (kk : W p l e R s m args below meth c H locs cells slots Q (F0 m (pc + 1) ls (.int x :: rest))) : W p l e R s m args below meth c H locs cells slots Q (F0 m pc ls (.int i :: .ref q :: rest)) := by
  obtain ⟨L, hL, hP, hD⟩ := hW
  obtain ⟨hx, hb, hml, hown, hts, hK, hN, hA⟩ := C0
  unfold aI at hv
  split at hv
  · rename_i c1 n f hσ
    split at hv
    · rename_i hc
      obtain ⟨hc, hin⟩ := hc
      subst hc
      cases hv
      obtain ⟨hm, k, hk⟩ := zW.get (D := D) (ca := ca) hL hσ
      exact va_cald (D := D) (a := q) hx hb hK hP k 0 hk rfl hin d kk
    · cases hv
  · cases hv
theorem r_uI {i x : Int32} (C0 : zC p s m args c own cc nL D ca A) (hW : zW D ca A σ H) (hS : va_S A s.heap H locs) (hv : uI 1 σ q i x = some σ') (d : decode cc pc = .ok (.iastore, 1))
    (kk : ∀ (H1 : Heap) (locs1 : List Loc), zW D ca A σ' H1 → va_S A s.heap H1 locs1 → W p l e R s m args below meth c H1 locs1 cells slots Q (F0 m (pc + 1) ls rest)) : W p l e R s m args below meth c H locs cells slots Q (F0 m pc ls (.int x :: .int i :: .ref q :: rest)) := by
  obtain ⟨L, hL, hP, hD⟩ := hW
  obtain ⟨hx, hb, hml, hown, hts, hK, hN, hA⟩ := C0
  unfold uI at hv
  split at hv
  · rename_i c1 n f hσ
    split at hv
    · rename_i hc
      obtain ⟨hc, hin⟩ := hc
      subst hc
      cases hv
      obtain ⟨hm, k, hk⟩ := zW.get (D := D) (ca := ca) hL hσ
      exact va_iast (D := D) (a := q) hx hb hK hP hD hS k 1 hk rfl hin d (fun H1 locs1 hP1 hD1 hS1 => kk H1 locs1 (zW.put (e1 := .inl (1, n, .inl (upd f i.toNatClampNeg x))) hL hD hσ hk hP1 hD1) hS1)
    · cases hv
  · cases hv
theorem r_uC {i x y : Int32} (C0 : zC p s m args c own cc nL D ca A) (hW : zW D ca A σ H) (hS : va_S A s.heap H locs) (hc0 : ckC x = some y) (hv : uI 0 σ q i y = some σ') (d : decode cc pc = .ok (.castore, 1))
    (kk : ∀ (H1 : Heap) (locs1 : List Loc), zW D ca A σ' H1 → va_S A s.heap H1 locs1 → W p l e R s m args below meth c H1 locs1 cells slots Q (F0 m (pc + 1) ls rest)) : W p l e R s m args below meth c H locs cells slots Q (F0 m pc ls (.int x :: .int i :: .ref q :: rest)) := by
  obtain ⟨L, hL, hP, hD⟩ := hW
  obtain ⟨hx, hb, hml, hown, hts, hK, hN, hA⟩ := C0
  unfold ckC at hc0
  split at hc0
  · rename_i hnar
    cases hc0
    unfold uI at hv
    split at hv
    · rename_i c1 n f hσ
      split at hv
      · rename_i hc
        obtain ⟨hc, hin⟩ := hc
        subst hc
        cases hv
        obtain ⟨hm, k, hk⟩ := zW.get (D := D) (ca := ca) hL hσ
        have e9 : vp_nar .char x = x := by unfold vp_nar; rw [(nar_c hnar).1]
        refine va_cast (D := D) (a := q) hx hb hK hP hD hS k 0 hk rfl hin d (fun H1 locs1 hP1 hD1 hS1 => kk H1 locs1 (zW.put (e1 := .inl (0, n, .inl (upd f i.toNatClampNeg x))) hL hD hσ hk ?_ ?_) hS1)
        · rw [e9] at hP1; exact hP1
        · rw [e9] at hD1; exact hD1
      · cases hv
    · cases hv
  · cases hc0
theorem r_aA {i : Int32} {kd x : Nat} {C : String} (hkd : (zTy ca)[kd]? = some (ca kd, .object C)) (C0 : zC p s m args c own cc nL D ca A) (hW : zW D ca A σ H) (hv : aA kd σ q i = some x) (d : decode cc pc = .ok (.aaload, 1))
    (kk : W p l e R s m args below meth c H locs cells slots Q (F0 m (pc + 1) ls (.ref x :: rest))) : W p l e R s m args below meth c H locs cells slots Q (F0 m pc ls (.int i :: .ref q :: rest)) := by
  obtain ⟨L, hL, hP, hD⟩ := hW
  obtain ⟨hx, hb, hml, hown, hts, hK, hN, hA⟩ := C0
  unfold aA at hv
  split at hv
  · rename_i c1 n f hσ
    split at hv
    · rename_i hc
      obtain ⟨hc, hin⟩ := hc
      subst hc
      obtain ⟨hm, k, hk⟩ := zW.get (D := D) (ca := ca) hL hσ
      refine va_aldq (D := D) (a := q) hx hb hK hP k c1 hk hkd hin d ?_
      rw [hv]
      exact kk
    · cases hv
  · cases hv
theorem r_uA {i : Int32} {kd v : Nat} {r : vw_C} (hkd : (zTy ca)[kd]? = some (ca kd, .object r.1)) (hci : vwCl[ci]? = some r) (C0 : zC p s m args c own cc nL D ca A) (hW : zW D ca A σ H) (hS : va_S A s.heap H locs) (hv : uA kd ci σ q i v = some σ') (d : decode cc pc = .ok (.aastore, 1))
    (kk : ∀ (H1 : Heap) (locs1 : List Loc), zW D ca A σ' H1 → va_S A s.heap H1 locs1 → W p l e R s m args below meth c H1 locs1 cells slots Q (F0 m (pc + 1) ls rest)) : W p l e R s m args below meth c H locs cells slots Q (F0 m pc ls (.ref v :: .int i :: .ref q :: rest)) := by
  obtain ⟨L, hL, hP, hD⟩ := hW
  obtain ⟨hx, hb, hml, hown, hts, hK, hN, hA⟩ := C0
  unfold uA at hv
  split at hv
  · rename_i c1 n f c2 vs hσ hσ2
    split at hv
    · rename_i hc
      obtain ⟨hc, hc2, hin⟩ := hc
      subst hc
      subst hc2
      cases hv
      obtain ⟨hm, k, hk⟩ := zW.get (D := D) (ca := ca) hL hσ
      obtain ⟨hm2, k2, hk2⟩ := zW.get (D := D) (ca := ca) hL hσ2
      exact va_astq (D := D) (a := q) hx hb hK hP hD hS k c1 k2 c2 hk hkd hk2 hci hin d (fun H1 locs1 hP1 hD1 hS1 => kk H1 locs1 (zW.put (e1 := .inl (c1, n, .inr (.inr (.inr (.inr (va_up f i.toNatClampNeg (some v))))))) hL hD hσ hk hP1 hD1) hS1)
    · cases hv
  · cases hv
theorem r_aL {kd : Nat} {x : Int32} {ty : FieldType} (hkd : (zTy ca)[kd]? = some (ca kd, ty)) (C0 : zC p s m args c own cc nL D ca A) (hW : zW D ca A σ H) (hv : aL kd σ q = some x) (d : decode cc pc = .ok (.arraylength, 1))
    (kk : W p l e R s m args below meth c H locs cells slots Q (F0 m (pc + 1) ls (.int x :: rest))) : W p l e R s m args below meth c H locs cells slots Q (F0 m pc ls (.ref q :: rest)) := by
  obtain ⟨L, hL, hP, hD⟩ := hW
  obtain ⟨hx, hb, hml, hown, hts, hK, hN, hA⟩ := C0
  unfold aL at hv
  split at hv
  · rename_i c1 n f hσ
    split at hv
    · rename_i hc
      subst hc
      cases hv
      obtain ⟨hm, k, hk⟩ := zW.get (D := D) (ca := ca) hL hσ
      exact va_alen (D := D) (a := q) hx hb hK hP k c1 hk hkd rfl d kk
    · cases hv
  · cases hv
theorem fits_i (x : Int32) : fits .int (.int x) = true := rfl
theorem r_cpI {q1 : Nat} {sp dp n : Int32} (C0 : zC p s m args c own cc nL D ca A) (w1 : Cond.methodLink own idx arraycopyName ∈ wsL_law) (w2 : Cond.native arraycopyName ∈ wsL_law) (w3 : Cond.static arraycopyName ∈ wsL_law) (w4 : Cond.initialized "java/lang/System" ∈ wsL_law) (hW : zW D ca A σ H) (hS : va_S A s.heap H locs) (hl : ls.size = nL) (hframes : 1 ≤ R.frames) (hlocals : (rest.map fun v => v.category).sum + (nativeFrameWords "java/lang/System" "arraycopy" 5 + 11) ≤ R.locals) (hv : cpI σ q sp q1 dp n = some σ') (d : decode cc pc = .ok (.invokestatic idx, 3))
    (kk : ∀ (H1 : Heap) (locs1 : List Loc), zW D ca A σ' H1 → va_S A s.heap H1 locs1 → W p l e R s m args below meth c H1 locs1 cells slots Q (F0 m (pc + 3) ls rest)) : W p l e R s m args below meth c H locs cells slots Q (F0 m pc ls (.int n :: .int dp :: .ref q1 :: .int sp :: .ref q :: rest)) := by
  obtain ⟨L, hL, hP, hD⟩ := hW
  obtain ⟨hx, hb, hml, hown, hts, hK, hN, hA⟩ := C0
  unfold cpI at hv
  split at hv
  · rename_i c0 n0 f c1 n1 g hσ hσ2
    split at hv
    · rename_i hc
      obtain ⟨hc, hc2, h1, h2, h3, h4, h5⟩ := hc
      subst hc
      subst hc2
      cases hv
      obtain ⟨hm, k, hk⟩ := zW.get (D := D) (ca := ca) hL hσ
      obtain ⟨hm2, k2, hk2⟩ := zW.get (D := D) (ca := ca) hL hσ2
      exact va_copyi (D := D) (a := q1) hx hb (hml.trans hl.symm) hown (hts _ w1) (hts _ w2) (hts _ w3) (hts _ w4) hK hP hD hS k k2 1 1 hk hk2 rfl rfl rfl h1 h2 h3 h4 h5 (fun i _ => fits_i _) hframes hlocals d (fun H1 locs1 hP1 hD1 hS1 => kk H1 locs1 (zW.put (e1 := .inl (1, n1, .inl (va_cpy f g sp.toNatClampNeg dp.toNatClampNeg n.toNatClampNeg))) hL hD hσ2 hk2 hP1 hD1) hS1)
    · cases hv
  · cases hv
theorem zPre (C0 : zC p s m args c own cc nL D ca A) (hW : zW D ca A σ H) (hS : va_S A s.heap H locs) : ∀ U : State, U.heap = H → s.WarmedH U.vm → zP D ca A σ U := by
  intro U hU hWm
  obtain ⟨hx, hb, hml, hown, hts, hK, hN, hA⟩ := C0
  exact ⟨by rw [hU]; exact hW, va_K.moved hWm.alike hK, hN.warm hWm, fun q hq => hA q (Nat.le_trans hS.1 (by rw [← hU]; exact hq))⟩
theorem zRecv {r : vw_C} (hci : vwCl[ci]? = some r) (C0 : zC p s m args c own cc nL D ca A) (hW : zW D ca A σ H) (ho : isO σ ci q = some ()) : ∃ cellB : Cell, H[q]? = some cellB ∧ cellB.vm.isStatics = false ∧ s.vm.findClass r.1 = some cellB.cls := by
  obtain ⟨L, hL, hP, hD⟩ := hW
  obtain ⟨hx, hb, hml, hown, hts, hK, hN, hA⟩ := C0
  unfold isO at ho
  split at ho
  · rename_i c1 fs hσ
    split at ho
    · rename_i hc
      subst hc
      obtain ⟨hm, k, hk⟩ := zW.get (D := D) (ca := ca) hL hσ
      exact va_recv hK hP hci hk
    · cases ho
  · cases ho
variable {y : MethodName} {cy : ByteArray} {ml n mc ms : Nat} {ret : Option FieldType} {rm : Room} {As : List Value} {Qc : Array Value → State → Outcome → State → Prop} {host : String}
theorem z_runV {r : vw_C} (hci : vwCl[ci]? = some r) (hrc : r.1 = y.cls) (C0 : zC p s m args c own cc nL D ca A) (lk : zLV own idx y cy ml ret n) (hM : Met l y (.code y cy ml ret :: wsL_law) rm (va_Pc (.ref q :: As) (zP D ca A σ)) Qc mc ms A) (hW : zW D ca A σ H) (hS : va_S A s.heap H locs) (ho : isO σ ci q = some ()) (hn : As.length = n) (hl : ls.size = nL) (hst : st = As.reverse ++ .ref q :: rest) (hrest : (rest.map fun v => v.category).sum ≤ 8) (d : decode cc pc = .ok (.invokevirtual idx, 3)) (hr1 : rm.cells = mc) (hr2 : rm.slots = ms) (hR : rm.frames + 1 ≤ R.frames ∧ 8 + (ml + 11) + rm.locals ≤ R.locals) (hf : cells + mc ≤ R.cells ∧ slots + ms ≤ R.slots) :
    va_Run p l e R s m args below meth c H locs cells slots mc ms (F0 m pc ls st) rest (Qc (Value.ref q :: As).toArray) A := by
  have hrecv := zRecv hci C0 hW ho
  have hpre := zPre C0 hW hS
  obtain ⟨hx, hb, hml, hown, hts, hK, hN, hA⟩ := C0
  obtain ⟨l1, l2, l3, l4, l5, l6⟩ := lk
  refine va_runV (C := y.cls) ⟨hx, hb, hml, hown, hts⟩ hM (cwV n hts (zgoodIn ?_) rfl hr1 hr2 ⟨rfl, l6⟩ hR) ⟨zPc_blind _ _ _ _ _, by rw [← hrc]; exact hrecv, fun U hU hWm => ⟨rfl, hpre U hU hWm⟩⟩ rfl hn hl hst (lv_room hrest) d hf
  intro w hw
  unfold wsV at hw
  simp only [List.cons_append, List.nil_append, List.mem_cons] at hw
  rcases hw with rfl | rfl | rfl | rfl | rfl | hw
  · exact l1
  · exact l2
  · exact l3
  · exact l4
  · exact l5
  · exact hw
theorem z_runS (C0 : zC p s m args c own cc nL D ca A) (lk : zLS own idx y cy ml ret n) (hM : Met l y (.code y cy ml ret :: wsL_law) rm (va_Pc As (zP D ca A σ)) Qc mc ms A) (hW : zW D ca A σ H) (hS : va_S A s.heap H locs) (hn : As.length = n) (hl : ls.size = nL) (hst : st = As.reverse ++ rest) (hrest : (rest.map fun v => v.category).sum ≤ 8) (d : decode cc pc = .ok (.invokestatic idx, 3)) (hr1 : rm.cells = mc) (hr2 : rm.slots = ms) (hR : rm.frames + 1 ≤ R.frames ∧ 8 + (ml + 11) + rm.locals ≤ R.locals) (hf : cells + mc ≤ R.cells ∧ slots + ms ≤ R.slots) :
    va_Run p l e R s m args below meth c H locs cells slots mc ms (F0 m pc ls st) rest (Qc As.toArray) A := by
  have hpre := zPre C0 hW hS
  obtain ⟨hx, hb, hml, hown, hts, hK, hN, hA⟩ := C0
  obtain ⟨l1, l2, l3, l4, l5⟩ := lk
  refine va_runS ⟨hx, hb, hml, hown, hts⟩ hM (va_cwS n hts (zgoodIn ?_) rfl hr1 hr2 l5 hR) ⟨zPc_blind _ _ _ _ _, fun U hU hWm => ⟨rfl, hpre U hU hWm⟩⟩ rfl hn hl hst (lv_room hrest) d hf
  intro w hw
  unfold va_wsS at hw
  simp only [List.cons_append, List.nil_append, List.mem_cons] at hw
  rcases hw with rfl | rfl | rfl | rfl | hw
  · exact l1
  · exact l2
  · exact l3
  · exact l4
  · exact hw
theorem z_runN (C0 : zC p s m args c own cc nL D ca A) (lk : zLN own idx y host cy ml ret n) (hM : Met l y (.code y cy ml ret :: wsL_law) rm (va_Pc As (zP D ca A σ)) Qc mc ms A) (hW : zW D ca A σ H) (hS : va_S A s.heap H locs) (hn : As.length = n) (hl : ls.size = nL) (hst : st = As.reverse ++ rest) (hrest : (rest.map fun v => v.category).sum ≤ 8) (d : decode cc pc = .ok (.invokestatic idx, 3)) (hr1 : rm.cells = mc) (hr2 : rm.slots = ms) (hR : rm.frames + 1 ≤ R.frames ∧ 8 + (ml + 11) + rm.locals ≤ R.locals) (hf : cells + mc ≤ R.cells ∧ slots + ms ≤ R.slots) :
    va_Run p l e R s m args below meth c H locs cells slots mc ms (F0 m pc ls st) rest (Qc As.toArray) A := by
  have hpre := zPre C0 hW hS
  obtain ⟨hx, hb, hml, hown, hts, hK, hN, hA⟩ := C0
  obtain ⟨l1, l2, l3, l4, l5⟩ := lk
  exact va_runSN ⟨hx, hb, hml, hown, hts⟩ hM ⟨va_cnB n hts (zgoodIn (zwin l4)) rfl hr1 hr2 (hN.1 _ l1) (hts _ l3) l5 hR, hts _ l2, trivial⟩ ⟨zPc_blind _ _ _ _ _, fun U hU hWm => ⟨rfl, hpre U hU hWm⟩⟩ rfl hn hl hst (lv_room hrest) d hf
theorem z_calli {r0 : Int32} {a : Array Value} (hr : va_Run p l e R s m args below meth c H locs cells slots mc ms (F0 m pc ls st) rest (zQi r0 D ca A σ' a) A) (hS : va_S A s.heap H locs)
    (kk : ∀ (H1 : Heap) (locs1 : List Loc), zW D ca A σ' H1 → va_S A s.heap H1 locs1 → W p l e R s m args below meth c H1 locs1 (cells + mc) (slots + ms) Q (F0 m (pc + 3) ls (.int r0 :: rest))) : W p l e R s m args below meth c H locs cells slots Q (F0 m pc ls st) := by
  refine va_calli hr hS (fun _ _ h => h) (fun _ h => h) (fun r u t H1 locs1 ht hvm hp hB hz hk hS1 => ?_)
  subst hp
  subst ht
  exact kk _ _ hB hS1
theorem z_callv {a : Array Value} (hr : va_Run p l e R s m args below meth c H locs cells slots mc ms (F0 m pc ls st) rest (zQv D ca A σ' a) A) (hS : va_S A s.heap H locs)
    (kk : ∀ (H1 : Heap) (locs1 : List Loc), zW D ca A σ' H1 → va_S A s.heap H1 locs1 → W p l e R s m args below meth c H1 locs1 (cells + mc) (slots + ms) Q (F0 m (pc + 3) ls rest)) : W p l e R s m args below meth c H locs cells slots Q (F0 m pc ls st) := by
  refine va_callv hr hS (fun _ _ h => h) (fun _ h => h) (fun u t H1 locs1 ht hvm hp hB hz hk hS1 => ?_)
  subst ht
  exact kk _ _ hB hS1
theorem z_callq {r0 : Option Nat} {a : Array Value} (hr : va_Run p l e R s m args below meth c H locs cells slots mc ms (F0 m pc ls st) rest (zQq r0 D ca A σ' a) A) (hS : va_S A s.heap H locs)
    (kk : ∀ (H1 : Heap) (locs1 : List Loc), zW D ca A σ' H1 → va_S A s.heap H1 locs1 → W p l e R s m args below meth c H1 locs1 (cells + mc) (slots + ms) Q (F0 m (pc + 3) ls (va_rf r0 :: rest))) : W p l e R s m args below meth c H locs cells slots Q (F0 m pc ls st) := by
  refine va_callq hr hS (fun _ _ h => h) (fun _ h => h) (fun r u t H1 locs1 ht hvm hp hB hz hk hS1 => ?_)
  subst hp
  subst ht
  exact kk _ _ hB hS1
theorem r_iret {v : Int32} (C0 : zC p s m args c own cc nL D ca A) (hr : meth.sig.returnType = some .int) (hlocks : meth.locks = false) (hW : zW D ca A σ H) (hS : va_S A s.heap H locs) (d : decode cc pc = .ok (.ireturn, 1)) : W p l e R s m args below meth c H locs cells slots (MQ below (zQi v D ca A σ) args s cells slots A) (F0 m pc ls [.int v]) :=
  W.iret C0.1 C0.2.1 hr (fun t ht _ => ⟨⟨v, (), rfl, rfl, by show zW D ca A σ t.heap; rw [ht]; exact hW⟩, hS.F ht⟩) hS.2.2 d hlocks
theorem r_zret {v : Int32} {ty : FieldType} (C0 : zC p s m args c own cc nL D ca A) (hr : meth.sig.returnType = some ty) (hn : narrow ty (.int v) = .int v) (hlocks : meth.locks = false) (hW : zW D ca A σ H) (hS : va_S A s.heap H locs) (d : decode cc pc = .ok (.ireturn, 1)) : W p l e R s m args below meth c H locs cells slots (MQ below (zQi v D ca A σ) args s cells slots A) (F0 m pc ls [.int v]) :=
  W.zret C0.1 C0.2.1 hr hn (fun t ht _ => ⟨⟨v, (), rfl, rfl, by show zW D ca A σ t.heap; rw [ht]; exact hW⟩, hS.F ht⟩) hS.2.2 d hlocks
theorem r_vret (C0 : zC p s m args c own cc nL D ca A) (hr : meth.sig.returnType = none) (hlocks : meth.locks = false) (hW : zW D ca A σ H) (hS : va_S A s.heap H locs) (d : decode cc pc = .ok (.return_, 1)) : W p l e R s m args below meth c H locs cells slots (MQ below (zQv D ca A σ) args s cells slots A) (F0 m pc ls []) :=
  W.vret C0.1 C0.2.1 hr (fun t ht _ => ⟨⟨(), rfl, trivial, by show zW D ca A σ t.heap; rw [ht]; exact hW⟩, hS.F ht⟩) hS.2.2 d hlocks
theorem r_aret {v : Option Nat} {C : String} (C0 : zC p s m args c own cc nL D ca A) (hr : meth.sig.returnType = some (.object C)) (hlocks : meth.locks = false) (hW : zW D ca A σ H) (hS : va_S A s.heap H locs) (d : decode cc pc = .ok (.areturn, 1)) : W p l e R s m args below meth c H locs cells slots (MQ below (zQq v D ca A σ) args s cells slots A) (F0 m pc ls [va_rf v]) :=
  W.aret C0.1 C0.2.1 hr (Or.inl ⟨C, rfl⟩) (by cases v with | none => exact Or.inl rfl | some a => exact Or.inr ⟨a, rfl⟩) (fun t ht _ => ⟨⟨v, (), rfl, rfl, by show zW D ca A σ t.heap; rw [ht]; exact hW⟩, hS.F ht⟩) hS.2.2 d hlocks
theorem nz0 : narrow .boolean (.int 0) = .int 0 := rfl
theorem nz1 : narrow .boolean (.int 1) = .int 1 := rfl
theorem nar_z {v w : Int32} (h : ckZ v = some w) : v = w ∧ narrow .boolean (.int w) = .int w := by
  unfold ckZ at h
  split at h
  · rename_i h1
    cases h
    rcases h1 with rfl | rfl
    · exact ⟨rfl, rfl⟩
    · exact ⟨rfl, rfl⟩
  · cases h
theorem nar_ch {v w : Int32} (h : ckC v = some w) : v = w ∧ narrow .char (.int w) = .int w := by
  unfold ckC at h
  split at h
  · rename_i h1
    cases h
    exact ⟨rfl, (nar_c h1).1⟩
  · cases h
abbrev zMin (own : String) (idx : Nat) : Prop := Cond.methodLink own idx Lib.Math.min.name ∈ wsL_law ∧ Cond.static Lib.Math.min.name ∈ wsL_law ∧ Cond.initialized "java/lang/Math" ∈ wsL_law ∧ Cond.code Lib.Math.min.name Lib.Math.min.code 2 (some .int) ∈ wsL_law
abbrev zMax (own : String) (idx : Nat) : Prop := Cond.methodLink own idx Lib.Math.max.name ∈ wsL_law ∧ Cond.static Lib.Math.max.name ∈ wsL_law ∧ Cond.initialized "java/lang/Math" ∈ wsL_law ∧ Cond.code Lib.Math.max.name Lib.Math.max.code 2 (some .int) ∈ wsL_law
abbrev zAbs (own : String) (idx : Nat) : Prop := Cond.methodLink own idx Lib.Math.abs.name ∈ wsL_law ∧ Cond.static Lib.Math.abs.name ∈ wsL_law ∧ Cond.initialized "java/lang/Math" ∈ wsL_law ∧ Cond.code Lib.Math.abs.name Lib.Math.abs.code 1 (some .int) ∈ wsL_law
theorem r_min {x z : Int32} (C0 : zC p s m args c own cc nL D ca A) (lk : zMin own idx) (hl : ls.size = nL) (hframes : 1 ≤ R.frames) (hlocals : (rest.map fun v => v.category).sum + 13 ≤ R.locals) (hc : cells ≤ R.cells ∧ slots ≤ R.slots) (d : decode cc pc = .ok (.invokestatic idx, 3))
    (kk : W p l e R s m args below meth c H locs cells slots Q (F0 m (pc + 3) ls (.int (imin x z) :: rest))) : W p l e R s m args below meth c H locs cells slots Q (F0 m pc ls (.int z :: .int x :: rest)) := by
  obtain ⟨hx, hb, hml, hown, hts, hK, hN, hA⟩ := C0
  exact va_mmin hx hb (hml.trans hl.symm) hown (hts _ lk.1) (hts _ lk.2.1) (hts _ lk.2.2.1) (hts _ lk.2.2.2) hframes hlocals hc.1 hc.2 d kk
theorem r_max {x z : Int32} (C0 : zC p s m args c own cc nL D ca A) (lk : zMax own idx) (hl : ls.size = nL) (hframes : 1 ≤ R.frames) (hlocals : (rest.map fun v => v.category).sum + 13 ≤ R.locals) (hc : cells ≤ R.cells ∧ slots ≤ R.slots) (d : decode cc pc = .ok (.invokestatic idx, 3))
    (kk : W p l e R s m args below meth c H locs cells slots Q (F0 m (pc + 3) ls (.int (imax x z) :: rest))) : W p l e R s m args below meth c H locs cells slots Q (F0 m pc ls (.int z :: .int x :: rest)) := by
  obtain ⟨hx, hb, hml, hown, hts, hK, hN, hA⟩ := C0
  exact va_mmax hx hb (hml.trans hl.symm) hown (hts _ lk.1) (hts _ lk.2.1) (hts _ lk.2.2.1) (hts _ lk.2.2.2) hframes hlocals hc.1 hc.2 d kk
theorem r_abs {x : Int32} (C0 : zC p s m args c own cc nL D ca A) (lk : zAbs own idx) (hl : ls.size = nL) (hframes : 1 ≤ R.frames) (hlocals : (rest.map fun v => v.category).sum + 13 ≤ R.locals) (hc : cells ≤ R.cells ∧ slots ≤ R.slots) (d : decode cc pc = .ok (.invokestatic idx, 3))
    (kk : W p l e R s m args below meth c H locs cells slots Q (F0 m (pc + 3) ls (.int (iabs x) :: rest))) : W p l e R s m args below meth c H locs cells slots Q (F0 m pc ls (.int x :: rest)) := by
  obtain ⟨hx, hb, hml, hown, hts, hK, hN, hA⟩ := C0
  exact va_mabs hx hb (hml.trans hl.symm) hown (hts _ lk.1) (hts _ lk.2.1) (hts _ lk.2.2.1) (hts _ lk.2.2.2) hframes hlocals hc.1 hc.2 d kk
theorem z_top {x w : Int32} (h : some x = some w) (kk : W p l e R s m args below meth c H locs cells slots Q (F0 m pc ls (.int w :: rest))) : W p l e R s m args below meth c H locs cells slots Q (F0 m pc ls (.int x :: rest)) := by
  cases h
  exact kk
theorem z_topl {x w : Int64} (h : some x = some w) (kk : W p l e R s m args below meth c H locs cells slots Q (F0 m pc ls (.long w :: rest))) : W p l e R s m args below meth c H locs cells slots Q (F0 m pc ls (.long x :: rest)) := by
  cases h
  exact kk
theorem z_topf {x w : UInt32} (h : some x = some w) (kk : W p l e R s m args below meth c H locs cells slots Q (F0 m pc ls (.float w :: rest))) : W p l e R s m args below meth c H locs cells slots Q (F0 m pc ls (.float x :: rest)) := by
  cases h
  exact kk
theorem r_lcmp {x y : Int64} (hx : p.tables.exec = Jvm.exec) (hb : c.code = cc) (d : decode cc pc = .ok (.lcmp, 1)) (kk : W p l e R s m args below meth c H locs cells slots Q (F0 m (pc + 1) ls (.int (lg_cmp x y) :: rest))) : W p l e R s m args below meth c H locs cells slots Q (F0 m pc ls (.long y :: .long x :: rest)) := W.lcmp hx hb d kk
theorem r_irem {x y : Int32} (hx : p.tables.exec = Jvm.exec) (hb : c.code = cc) (d : decode cc pc = .ok (.irem, 1)) (h : ¬ y = 0) (kk : W p l e R s m args below meth c H locs cells slots Q (F0 m (pc + 1) ls (.int (irem x y) :: rest))) : W p l e R s m args below meth c H locs cells slots Q (F0 m pc ls (.int y :: .int x :: rest)) := lv_irem hx hb d h kk
theorem r_iushr {x y : Int32} (hx : p.tables.exec = Jvm.exec) (hb : c.code = cc) (d : decode cc pc = .ok (.iushr, 1)) (kk : W p l e R s m args below meth c H locs cells slots Q (F0 m (pc + 1) ls (.int (iushr x y) :: rest))) : W p l e R s m args below meth c H locs cells slots Q (F0 m pc ls (.int y :: .int x :: rest)) := lv_iushr hx hb d rfl kk
theorem r_lshl {x : Int64} {y : Int32} (hx : p.tables.exec = Jvm.exec) (hb : c.code = cc) (d : decode cc pc = .ok (.lshl, 1)) (kk : W p l e R s m args below meth c H locs cells slots Q (F0 m (pc + 1) ls (.long (lshl x y) :: rest))) : W p l e R s m args below meth c H locs cells slots Q (F0 m pc ls (.int y :: .long x :: rest)) := lv_lshl hx hb d rfl kk
theorem r_i2c {x : Int32} (hx : p.tables.exec = Jvm.exec) (hb : c.code = cc) (d : decode cc pc = .ok (.i2c, 1)) (kk : W p l e R s m args below meth c H locs cells slots Q (F0 m (pc + 1) ls (.int (i2c x) :: rest))) : W p l e R s m args below meth c H locs cells slots Q (F0 m pc ls (.int x :: rest)) := lv_i2c hx hb d rfl kk
end ZR
