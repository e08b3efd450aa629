/-! Rows of constructors: what they make lies at the heap's end; the size is told. -/
def nO (σ : zS) (n ci : Nat) (fs : List Value) : Option (zS × Nat) := some (zup σ n (.inr (ci, fs)), n + 1)
def nAI (kd : Nat) (σ : zS) (n : Nat) (len : Int32) : Option (zS × Nat) := if ¬ len < 0 ∧ len.toNatClampNeg * 4 ≤ 536870912 then some (zup σ n (.inl (kd, len.toNatClampNeg, .inl (fun _ => 0))), n + 1) else none
def nAA (kd : Nat) (σ : zS) (n : Nat) (len : Int32) : Option (zS × Nat) := if ¬ len < 0 ∧ len.toNatClampNeg * 4 ≤ 536870912 then some (zup σ n (.inl (kd, len.toNatClampNeg, .inr (.inr (.inr (.inr (fun _ => none)))))), n + 1) else none
def zPn (D : va_G) (ca : Nat → ClassId) (A : Nat → Prop) (σ : zS) (n : Nat) (U : State) : Prop := zP D ca A σ U ∧ U.heap.size = n
abbrev zQn (D : va_G) (ca : Nat → ClassId) (A : Nat → Prop) (σ : zS) (n : Nat) : Array Value → State → Outcome → State → Prop := va_Qv (fun (_ : Unit) => True) (fun _ t => zW D ca A σ t.heap ∧ t.heap.size = n) A
theorem zPn_blind (av : List Value) (D : va_G) (ca : Nat → ClassId) (A : Nat → Prop) (σ : zS) (n : Nat) : FrameBlind (va_Pc av (zPn D ca A σ n)) := fun a U g mk h => ⟨h.1, (zPc_blind av D ca A σ a U g mk ⟨h.1, h.2.1⟩).2, h.2.2⟩
def zLC (own : String) (idx ci : Nat) (fs : List Value) : Prop := ∃ (C : String) (T : u_T) (N : Nat) (tyf : Nat → FieldType), vwCl[ci]? = some (C, T, N) ∧ (∀ w ∈ u_ws C T N, w ∈ wsL_law) ∧ (∀ j, j < N → parseFieldDescriptor (T j).2.2.1 = some (tyf j)) ∧ Cond.classLink own idx C ∈ wsL_law ∧ Cond.instantiable C N ∈ wsL_law ∧ Cond.initialized C ∈ wsL_law ∧ (∀ j, j < N → defaultValue (tyf j) = vp_V fs j) ∧ fs.length = N
def zLI (own : String) (idx : Nat) (y : MethodName) (cy : ByteArray) (ml : Nat) (n : Nat) : Prop := Cond.methodLink own idx y ∈ wsL_law ∧ Cond.instanceMethod y ∈ wsL_law ∧ Cond.initialized y.cls ∈ wsL_law ∧ Cond.code y cy ml none ∈ wsL_law ∧ zMH y n ∧ y.name = "<init>"
def zLIN (own : String) (idx : Nat) (y : MethodName) (host : String) (cy : ByteArray) (ml : Nat) (n : Nat) : Prop := (own, idx, y, host) ∈ zNl ∧ Cond.instanceMethod y ∈ wsL_law ∧ Cond.initialized y.cls ∈ wsL_law ∧ Cond.code y cy ml none ∈ wsL_law ∧ zMH y n ∧ y.name = "<init>"
theorem zMkN {l : Launch} {y : MethodName} {cc : ByteArray} {maxL : Nat} {ret : Option FieldType} {rm : Room} {av : List Value} {D : va_G} {ca : Nat → ClassId} {A : Nat → Prop} {σ : zS} {n : Nat} {Qc : Array Value → State → Outcome → State → Prop} {mc ms : Nat} (hy : plainName y.cls = true) (hfit : (lg_sl av).length ≤ maxL)
    (body : ∀ (p : Program) (e : Env) (s : State) (m : MethodId) (below : List Frame) (meth : Method) (c : Code), zC p s m av.toArray c y.cls cc maxL D ca A → meth.sig.returnType = ret → meth.locks = false → meth.name = y.name → zW D ca A σ s.heap → s.heap.size = n → ∀ ls : Array Slot, lv_has ls maxL (lv_args 0 av) → W p l e rm s m av.toArray below meth c s.heap [] 0 0 (MQ below Qc av.toArray s mc ms A) (F0 m 0 ls [])) :
    Met l y (.code y cc maxL ret :: wsL_law) rm (va_Pc av (zPn D ca A σ n)) Qc mc ms A := by
  refine Met.ofW (cc := cc) (maxL := maxL) (ret := ret) hy rfl ?_
  intro p e s m args below meth c s₁ B hml hv
  obtain ⟨rfl, ⟨hW, hK, hN, hA⟩, hz⟩ := hv
  have hts := atoms_spec (ws := Cond.code y cc maxL ret :: wsL_law) B.pre
  have hl := lv_entry av (n := maxL) hfit
  rw [lg_entry_eq]
  exact body p e s m below meth c ⟨B.exec, B.bytes, hml, findClass_of_methodNamed B.named, fun w hw => hts w (List.mem_cons_of_mem _ hw), hK, hN, hA⟩ B.returns B.notSynchronized (name_of_methodNamed B.named B.method).1 hW hz _ hl
section ZN
variable {p : Program} {l : Launch} {e : Env} {R : Room} {s : State} {m : MethodId} {args : Array Value} {below : List Frame} {meth : Method} {c : Code} {H : Heap} {locs : List Loc} {cells slots : Nat} {Q : State → Prop}
variable {cc : ByteArray} {own : String} {nL pc idx ci k q n n' : Nat} {ls : Array Slot} {rest st : List Value} {D : va_G} {ca : Nat → ClassId} {A : Nat → Prop} {σ σ' : zS}
theorem zW.new {e1 : zE} {H1 : Heap} {L : List Nat} (hL : ∀ q, q ∈ L ↔ ∃ e, σ q = some e) (hP : va_P D vwCl (va_pl L (zf ca σ)) H) (hD : va_D A (va_pl L (zf ca σ))) (hS : va_S A s.heap H locs) (hA : ∀ q, s.heap.size ≤ q → A q) (z1 : H1.size = H.size + 1) (o1 : ∀ q, q < H.size → H1[q]? = H[q]?) (he : va_at D vwCl (H.size, toE ca e1) H1) : zW D ca A (zup σ H.size e1) H1 ∧ va_S A s.heap H1 locs := by
  have hk : ∀ (k : Nat) (x : Nat × va_E), (va_pl L (zf ca σ))[k]? = some x → H1[x.1]? = H[x.1]? := fun k x hx => o1 x.1 ((hP k x hx).lt)
  refine ⟨(zW.push (H := H) hL ((hP.kept hk).app (w2 := [(H.size, toE ca e1)]) (fun k x hx => ?_)) (hD.push hP rfl (hA _ hS.1))).1, ⟨Nat.le_trans hS.1 (by omega), fun x h1 h2 => (o1 x (Nat.lt_of_lt_of_le h1 hS.1)).trans (hS.2.1 x h1 h2), hS.2.2⟩⟩
  have hz : k < 1 := (List.getElem?_eq_some_iff.mp hx).1
  rw [show k = 0 by omega] at hx
  cases hx
  exact he
theorem r_new {fs : List Value} (C0 : zC p s m args c own cc nL D ca A) (lk : zLC own idx ci fs) (hW : zW D ca A σ H) (hS : va_S A s.heap H locs) (hn : H.size = n) (hv : nO σ n ci fs = some (σ', n')) (hcells : cells + 1 ≤ R.cells) (hslots : slots + fs.length ≤ R.slots) (d : decode cc pc = .ok (.new idx, 3))
    (kk : ∀ H1 : Heap, zW D ca A σ' H1 → va_S A s.heap H1 locs → H1.size = n' → W p l e R s m args below meth c H1 locs (cells + 1) (slots + fs.length) Q (F0 m (pc + 3) ls (.ref n :: rest))) : W p l e R s m args below meth c H locs cells slots Q (F0 m pc ls rest) := by
  obtain ⟨L, hL, hP, hD⟩ := hW
  obtain ⟨hx, hb, hml, hown, hts, hK, hN, hA⟩ := C0
  obtain ⟨C, T, N, tyf, l1, l2, l3, l4, l5, l6, l7, l8⟩ := lk
  obtain ⟨e1, e2⟩ := Prod.mk.inj (Option.some.inj hv)
  subst e1; subst e2; subst hn
  have hKn := hK.1 ci _ l1
  have l5' : (Cond.instantiable C fs.length).before args s = true := by rw [l8]; exact hts _ l5
  refine W.newcK hx hb hown (hts _ l4) l5' (hts _ l6) rfl d hcells hslots hKn.2.1 rfl fun H1 kC hkC e1 z1 o1 => ?_
  obtain ⟨w, hS1⟩ := zW.new (e1 := .inr (ci, fs)) hL hP hD hS hA z1 o1 ⟨_, l1, (u_born tyf hts l2 hKn hkC e1 l3).to l7⟩
  exact kk H1 w hS1 z1
theorem r_newI {len : Int32} (C0 : zC p s m args c own cc nL D ca A) (w1 : Cond.arrayClass .int ∈ wsL_law) (hW : zW D ca A σ H) (hS : va_S A s.heap H locs) (hn : H.size = n) (hv : nAI 1 σ n len = some (σ', n')) (hcells : cells + 1 ≤ R.cells) (hslots : slots + len.toNatClampNeg ≤ R.slots) (d : decode cc pc = .ok (.newarray .int, 2))
    (kk : ∀ H1 : Heap, zW D ca A σ' H1 → va_S A s.heap H1 locs → H1.size = n' → W p l e R s m args below meth c H1 locs (cells + 1) (slots + len.toNatClampNeg) Q (F0 m (pc + 2) ls (.ref n :: rest))) : W p l e R s m args below meth c H locs cells slots Q (F0 m pc ls (.int len :: rest)) := by
  obtain ⟨L, hL, hP, hD⟩ := hW
  obtain ⟨hx, hb, hml, hown, hts, hK, hN, hA⟩ := C0
  unfold nAI at hv
  split at hv
  · rename_i hc
    obtain ⟨e1, e2⟩ := Prod.mk.inj (Option.some.inj hv)
    subst e1; subst e2; subst hn
    refine va_newaK (atype := .int) hx hb (hts _ w1) rfl d rfl hc.1 rfl hc.2 hcells hslots rfl fun H1 cA e1 z1 o1 hAr hNm => ?_
    have hcA : cA = ca 1 := Option.some.inj (hNm.symm.trans (hK.2 1 _ rfl).2)
    subst hcA
    obtain ⟨w, hS1⟩ := zW.new (e1 := .inl (1, len.toNatClampNeg, .inl (fun _ => 0))) hL hP hD hS hA z1 o1 e1
    exact kk H1 w hS1 z1
  · cases hv
theorem r_newC {len : Int32} (C0 : zC p s m args c own cc nL D ca A) (w1 : Cond.arrayClass .char ∈ wsL_law) (hW : zW D ca A σ H) (hS : va_S A s.heap H locs) (hn : H.size = n) (hv : nAI 0 σ n len = some (σ', n')) (hcells : cells + 1 ≤ R.cells) (hslots : slots + len.toNatClampNeg ≤ R.slots) (d : decode cc pc = .ok (.newarray .char, 2))
    (kk : ∀ H1 : Heap, zW D ca A σ' H1 → va_S A s.heap H1 locs → H1.size = n' → W p l e R s m args below meth c H1 locs (cells + 1) (slots + len.toNatClampNeg) Q (F0 m (pc + 2) ls (.ref n :: rest))) : W p l e R s m args below meth c H locs cells slots Q (F0 m pc ls (.int len :: rest)) := by
  obtain ⟨L, hL, hP, hD⟩ := hW
  obtain ⟨hx, hb, hml, hown, hts, hK, hN, hA⟩ := C0
  unfold nAI at hv
  split at hv
  · rename_i hc
    obtain ⟨e1, e2⟩ := Prod.mk.inj (Option.some.inj hv)
    subst e1; subst e2; subst hn
    refine va_newaK (atype := .char) hx hb (hts _ w1) rfl d rfl hc.1 rfl (Nat.le_trans (Nat.mul_le_mul_left _ (by decide)) hc.2) hcells hslots rfl fun H1 cA e1 z1 o1 hAr hNm => ?_
    have hcA : cA = ca 0 := Option.some.inj (hNm.symm.trans (hK.2 0 _ rfl).2)
    subst hcA
    obtain ⟨w, hS1⟩ := zW.new (e1 := .inl (0, len.toNatClampNeg, .inl (fun _ => 0))) hL hP hD hS hA z1 o1 e1
    exact kk H1 w hS1 z1
  · cases hv
theorem r_newA {len : Int32} {C : String} {kd : Nat} (hkd : (zTy ca)[kd]? = some (ca kd, .object C)) (hAO : zN s → va_AO C s) (C0 : zC p s m args c own cc nL D ca A) (w1 : Cond.classLink own idx C ∈ wsL_law) (hW : zW D ca A σ H) (hS : va_S A s.heap H locs) (hn : H.size = n) (hv : nAA kd σ n len = some (σ', n')) (hcells : cells + 1 ≤ R.cells) (hslots : slots + len.toNatClampNeg ≤ R.slots) (d : decode cc pc = .ok (.anewarray idx, 3))
    (kk : ∀ H1 : Heap, zW D ca A σ' H1 → va_S A s.heap H1 locs → H1.size = n' → W p l e R s m args below meth c H1 locs (cells + 1) (slots + len.toNatClampNeg) Q (F0 m (pc + 3) ls (.ref n :: rest))) : W p l e R s m args below meth c H locs cells slots Q (F0 m pc ls (.int len :: rest)) := by
  obtain ⟨L, hL, hP, hD⟩ := hW
  obtain ⟨hx, hb, hml, hown, hts, hK, hN, hA⟩ := C0
  unfold nAA at hv
  split at hv
  · rename_i hc
    obtain ⟨e1, e2⟩ := Prod.mk.inj (Option.some.inj hv)
    subst e1; subst e2; subst hn
    refine W.anew hx hb hown (hts _ w1) (va_AO.use (hAO hN)) rfl d rfl hc.1 hc.2 hcells hslots fun cA kA comp f1 f2 f3 f4 => ?_
    obtain ⟨k2, c2, g1, g2, g3, g4⟩ := (hK.2 kd _ hkd).2
    have hcA : cA = ca kd := Option.some.inj (f1.symm.trans g4)
    generalize hH1 : H.push ({ cls := cA, slots := Array.replicate len.toNatClampNeg .null, vm := .none } : Cell) = H1
    have z1 : H1.size = H.size + 1 := by rw [← hH1, Array.size_push]
    have e1 : H1[H.size]? = some (arrV cA len.toNatClampNeg (fun _ => .null)) := by rw [← hH1, Array.getElem?_push_size, ← arrV_new]
    have o1 : ∀ q : Nat, q < H.size → H1[q]? = H[q]? := fun q hq => by rw [← hH1, Array.getElem?_push, if_neg (Nat.ne_of_lt hq)]
    subst hcA
    obtain ⟨w, hS1⟩ := zW.new (e1 := .inl (kd, len.toNatClampNeg, .inr (.inr (.inr (.inr (fun _ => none)))))) hL hP hD hS hA z1 o1 (by show H1[H.size]? = some (vp_cell _ _); rw [vp_cell_q]; exact e1)
    exact kk H1 w hS1 z1
  · cases hv
theorem r_putAn {x : Nat} {ty : FieldType} (C0 : zC p s m args c own cc nL D ca A) (hin2 : meth.name = "<init>") (hown2 : ∀ C T N, vwCl[ci]? = some (C, T, N) → C = own) (hW : zW D ca A σ H) (hS : va_S A s.heap H locs) (lk : zFL own idx ci k ty true) (hn : narrow ty (.ref x) = .ref x) (hfit : fits ty (.ref x) = true) (hz : H.size = n) (hv : sA σ ci k q x = some σ') (d : decode cc pc = .ok (.putfield idx, 3))
    (kk : ∀ (H1 : Heap) (locs1 : List Loc), zW D ca A σ' H1 → va_S A s.heap H1 locs1 → H1.size = n → W p l e R s m args below meth c H1 locs1 cells slots Q (F0 m (pc + 3) ls rest)) : W p l e R s m args below meth c H locs cells slots Q (F0 m pc ls (.ref x :: .ref q :: rest)) := by
  obtain ⟨L, hL, hP, hD⟩ := hW
  obtain ⟨hx, hb, hml, hown, hts, hK, hN, hA⟩ := C0
  obtain ⟨C, T, N, tyf, l1, l2, l3, l4, l5, l6, l7, l8, l9⟩ := lk
  unfold sA sV at hv
  split at hv
  · rename_i c1 fs hσ
    split at hv
    · rename_i hc
      obtain ⟨hc, hkl⟩ := hc
      subst hc
      cases hv
      obtain ⟨hm, i, hi⟩ := zW.get (D := D) (ca := ca) hL hσ
      have hap := va_apart (own := own) hts l2 tyf l3 l4 hK l1
      obtain ⟨r, h1, cell, q1, q2, q3, q4⟩ := hP i _ hi
      have hr : r = (C, T, N) := Option.some.inj (h1.symm.trans l1)
      subst hr
      obtain ⟨hSl, hfc, kC, hkC, hkind⟩ := hK.1 c1 _ l1
      obtain ⟨cf, kf, fi, f, hif, hsl⟩ := hSl k l5
      have hlay := hts _ (l2 _ (u_in_lay l5))
      unfold u_lay at hlay
      rw [if_pos l8] at hlay
      have hst := (u_facts hfc hkC (u_lays hts l2 l5) hif).1
      have hcf : m.cls = cf := by
        obtain ⟨_, _, c', _, _, _, -, -, hf', -, -, -, hown3, -⟩ := Cond.laysFinal_spec hlay
        have e1 : c' = cf := by have := hif.symm.trans hf'; simp at this; exact this.1.symm
        rw [l7.trans (hown2 C T N l1)] at hown3
        rw [← e1]; exact Option.some.inj (hown.symm.trans hown3)
      have h6 := u_fits hfc hkC hkind (Or.inr hlay) hif l9 hn hfit
      refine W.putFinK hx hb hown (hts _ l6) (by rw [l7] at hif; exact hif) hst hcf hin2 (by rw [q2]; exact h6) q1 q3 (by rw [hsl]; exact k2_hasslot (q4 k l5)) rfl rfl d fun H' e1 e2 e3 => ?_
      rw [hsl] at e1 ⊢
      exact kk H' _ (zW.put (e1 := .inr (c1, fs.set k (.ref x))) hL hD hσ hi (hP.set hD hi ⟨_, l1, t_OB.to (V := updV (vp_V fs) k (.ref x)) ⟨_, e1, q2, q3, t_set q4 hap l5 (.ref x)⟩ (fun j _ => vp_updV_set hkl (.ref x) j)⟩ e3) (hD.set hi)) (hS.put e2 e3 (hD.2 i _ hi)) (e2.trans hz)
    · cases hv
  · cases hv
theorem r_uAn {i : Int32} {kd v : Nat} {r : vw_C} (hkd : (zTy ca)[kd]? = some (ca kd, .object r.1)) (hci : vwCl[ci]? = some r) (C0 : zC p s m args c own cc nL D ca A) (hW : zW D ca A σ H) (hS : va_S A s.heap H locs) (hz : H.size = n) (hv : uA kd ci σ q i v = some σ') (d : decode cc pc = .ok (.aastore, 1))
    (kk : ∀ (H1 : Heap) (locs1 : List Loc), zW D ca A σ' H1 → va_S A s.heap H1 locs1 → H1.size = n → W p l e R s m args below meth c H1 locs1 cells slots Q (F0 m (pc + 1) ls rest)) : W p l e R s m args below meth c H locs cells slots Q (F0 m pc ls (.ref v :: .int i :: .ref q :: rest)) := by
  obtain ⟨L, hL, hP, hD⟩ := hW
  obtain ⟨hx, hb, hml, hown, hts, hK, hN, hA⟩ := C0
  unfold uA at hv
  split at hv
  · rename_i c1 n1 f c2 vs hσ hσ2
    split at hv
    · rename_i hc
      obtain ⟨hc, hc2, hin⟩ := hc
      subst hc
      subst hc2
      cases hv
      obtain ⟨hm, k, hk⟩ := zW.get (D := D) (ca := ca) hL hσ
      obtain ⟨hm2, k2, hk2⟩ := zW.get (D := D) (ca := ca) hL hσ2
      have hlt : i.toNatClampNeg < n1 := Nat.not_le.mp fun q => hin (Or.inr q)
      have h0 : ¬ i < 0 := fun q => hin (Or.inl q)
      obtain ⟨r', hr', cellV, g1, g2, g3, -⟩ := hP k2 _ hk2
      have hcls := (hK.1 c2 r hci).2
      obtain ⟨kA, comp, k1, k2', k3, -⟩ := (hK.2 c1 _ hkd).2
      have hcomp : comp = D.1 c2 := Option.some.inj (k3.symm.trans hcls.1)
      subst hcomp
      obtain ⟨kC, hkC, -⟩ := hcls.2
      refine W.aast hx hb (hP k _ hk) (fun q h => by cases h) (fun h => by cases h) k1 k2' rfl hkC ⟨h0, by show _ < (arrV _ _ _).slots.size; rw [arrV_size]; exact hlt⟩ g1 (fun q h => by rw [g3] at h; cases h) (by rw [g2]; exact hkC) (by rw [g2]; exact va_assign hcls) rfl rfl d fun H1 e z oq => ?_
      refine kk H1 _ (zW.put (e1 := .inl (c1, n1, .inr (.inr (.inr (.inr (va_up f i.toNatClampNeg (some v))))))) hL hD hσ hk (hP.set hD hk ?_ oq) (hD.set hk)) (hS.put z oq (hD.2 k _ hk)) (z.trans hz)
      show H1[q]? = some (vp_cell _ _)
      rw [e]
      rw [vp_cell_q, vp_cell_q, arrV_store]
      congr 2
      funext q
      by_cases hq : q = i.toNatClampNeg
      · subst hq
        simp [updV, va_up, va_rf]
      · simp [updV, va_up, hq]
    · cases hv
  · cases hv
variable {y : MethodName} {cy : ByteArray} {ml na mc ms : Nat} {rm : Room} {As : List Value} {Qc : Array Value → State → Outcome → State → Prop} {host : String}
theorem z_runIN (C0 : zC p s m args c own cc nL D ca A) (lk : zLIN own idx y host cy ml na) (hM : Met l y (.code y cy ml none :: wsL_law) rm (va_Pc (.ref q :: As) (zPn D ca A σ n)) Qc mc ms A) (hW : zW D ca A σ H) (hS : va_S A s.heap H locs) (hz : H.size = n) (hn : As.length = na) (hl : ls.size = nL) (hst : st = As.reverse ++ .ref q :: rest) (hrest : (rest.map fun v => v.category).sum ≤ 8) (d : decode cc pc = .ok (.invokespecial idx, 3)) (hr1 : rm.cells = mc) (hr2 : rm.slots = ms) (hR : rm.frames + 1 ≤ R.frames ∧ 8 + (ml + 11) + rm.locals ≤ R.locals) (hf : cells + mc ≤ R.cells ∧ slots + ms ≤ R.slots) :
    va_Run p l e R s m args below meth c H locs cells slots mc ms (F0 m pc ls st) rest (Qc (Value.ref q :: As).toArray) A := by
  have hpre := zPre C0 hW hS
  obtain ⟨hx, hb, hml, hown, hts, hK, hN, hA⟩ := C0
  obtain ⟨l1, l2, l3, l4, l5, l6⟩ := lk
  exact va_runIN ⟨hx, hb, hml, hown, hts⟩ hM ⟨va_cnB na hts (zgoodIn (zwin l4)) rfl hr1 hr2 (hN.1 _ l1) (hts _ l3) l5 hR, l6, hts _ l2⟩ ⟨zPn_blind _ _ _ _ _ _, fun U hU hWm => ⟨rfl, hpre U hU hWm, by rw [hU]; exact hz⟩⟩ rfl hn hl hst (lv_room hrest) d hf
theorem z_runI (C0 : zC p s m args c own cc nL D ca A) (lk : zLI own idx y cy ml na) (hM : Met l y (.code y cy ml none :: wsL_law) rm (va_Pc (.ref q :: As) (zPn D ca A σ n)) Qc mc ms A) (hW : zW D ca A σ H) (hS : va_S A s.heap H locs) (hz : H.size = n) (hn : As.length = na) (hl : ls.size = nL) (hst : st = As.reverse ++ .ref q :: rest) (hrest : (rest.map fun v => v.category).sum ≤ 8) (d : decode cc pc = .ok (.invokespecial idx, 3)) (hr1 : rm.cells = mc) (hr2 : rm.slots = ms) (hR : rm.frames + 1 ≤ R.frames ∧ 8 + (ml + 11) + rm.locals ≤ R.locals) (hf : cells + mc ≤ R.cells ∧ slots + ms ≤ R.slots) :
    va_Run p l e R s m args below meth c H locs cells slots mc ms (F0 m pc ls st) rest (Qc (Value.ref q :: As).toArray) A := by
  have hpre := zPre C0 hW hS
  obtain ⟨hx, hb, hml, hown, hts, hK, hN, hA⟩ := C0
  obtain ⟨l1, l2, l3, l4, l5, l6⟩ := lk
  exact va_runI ⟨hx, hb, hml, hown, hts⟩ hM (cwI na hts (zgoodIn (zwin l4)) rfl hr1 hr2 (hts _ l3) (hts _ l1) (hts _ l2) l6 l5 hR) ⟨zPn_blind _ _ _ _ _ _, fun U hU hWm => ⟨rfl, hpre U hU hWm, by rw [hU]; exact hz⟩⟩ rfl hn hl hst (lv_room hrest) d hf
theorem z_calln {a : Array Value} (hr : va_Run p l e R s m args below meth c H locs cells slots mc ms (F0 m pc ls st) rest (zQn D ca A σ' n' a) A) (hS : va_S A s.heap H locs)
    (kk : ∀ (H1 : Heap) (locs1 : List Loc), zW D ca A σ' H1 → va_S A s.heap H1 locs1 → H1.size = n' → W p l e R s m args below meth c H1 locs1 (cells + mc) (slots + ms) Q (F0 m (pc + 3) ls rest)) : W p l e R s m args below meth c H locs cells slots Q (F0 m pc ls st) := by
  refine va_callv hr hS (fun _ _ h => h) (fun _ h => h) (fun u t H1 locs1 ht hvm hp hB hz hk hS1 => ?_)
  subst ht
  exact kk _ _ hB.1 hS1 hB.2
theorem r_objInit {b : Nat} (C0 : zC p s m args c own cc nL D ca A) (w1 : Cond.methodLink own idx objectInit ∈ wsL_law) (w2 : Cond.instanceMethod objectInit ∈ wsL_law) (w3 : Cond.code objectInit ⟨#[0xb1]⟩ 1 none ∈ wsL_law) (hl : ls.size = nL) (d : decode cc pc = .ok (.invokespecial idx, 3)) (hframes : 1 ≤ R.frames) (hlocals : (rest.map fun v => v.category).sum + 12 ≤ R.locals)
    (kk : W p l e R s m args below meth c H locs cells slots Q (F0 m (pc + 3) ls rest)) : W p l e R s m args below meth c H locs cells slots Q (F0 m pc ls (.ref b :: rest)) := by
  obtain ⟨hx, hb, hml, hown, hts, hK, hN, hA⟩ := C0
  exact W.objInit hx hb hown (hts _ w1) (hts _ w2) (hts _ w3) rfl (by rw [hml]; exact hl) rfl d hframes (by show 2 * 0 + _ + _ ≤ _; omega) kk
theorem r_vretn {mc ms : Nat} (C0 : zC p s m args c own cc nL D ca A) (hr : meth.sig.returnType = none) (hlocks : meth.locks = false) (hW : zW D ca A σ H) (hS : va_S A s.heap H locs) (hz : H.size = n) (hc : cells ≤ mc) (hs : slots ≤ ms) (d : decode cc pc = .ok (.return_, 1)) : W p l e R s m args below meth c H locs cells slots (MQ below (zQn D ca A σ n) args s mc ms A) (F0 m pc ls []) :=
  W.widen hc hs (W.vret C0.1 C0.2.1 hr (fun t ht _ => ⟨⟨(), rfl, trivial, by show zW D ca A σ t.heap; rw [ht]; exact hW, by show t.heap.size = n; rw [ht]; exact hz⟩, hS.F ht⟩) hS.2.2 d hlocks)
end ZN
