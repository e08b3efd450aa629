/-! The store of the whole system (class and reference): a cell by its address; what the mirrored methods do to it; the world that holds it; own rows over it. -/
abbrev zE : Type := (Nat × vp_A) ⊕ (Nat × List Value)
abbrev zS : Type := Nat → Option zE
def zup (σ : zS) (q : Nat) (e : zE) : zS := fun j => if j = q then some e else σ j
-- what a mirrored instruction does; none: it would throw, or is outside what is held
def gI (σ : zS) (ci k q : Nat) : Option Int32 := match σ q with
  | some (.inr (c, fs)) => if c = ci then (match fs[k]? with | some (.int x) => some x | _ => none) else none
  | _ => none
def gA (σ : zS) (ci k q : Nat) : Option Nat := match σ q with
  | some (.inr (c, fs)) => if c = ci then (match fs[k]? with | some (.ref x) => some x | _ => none) else none
  | _ => none
def sV (σ : zS) (ci k q : Nat) (v : Value) : Option zS := match σ q with
  | some (.inr (c, fs)) => if c = ci ∧ k < fs.length then some (zup σ q (.inr (ci, fs.set k v))) else none
  | _ => none
def sI (σ : zS) (ci k q : Nat) (x : Int32) : Option zS := sV σ ci k q (.int x)
def sA (σ : zS) (ci k q : Nat) (x : Nat) : Option zS := sV σ ci k q (.ref x)
def aI (kd : Nat) (σ : zS) (q : Nat) (i : Int32) : Option Int32 := match σ q with
  | some (.inl (c, n, .inl f)) => if c = kd ∧ ¬ (i < 0 ∨ n ≤ i.toNatClampNeg) then some (f i.toNatClampNeg) else none
  | _ => none
def uI (kd : Nat) (σ : zS) (q : Nat) (i x : Int32) : Option zS := match σ q with
  | some (.inl (c, n, .inl f)) => if c = kd ∧ ¬ (i < 0 ∨ n ≤ i.toNatClampNeg) then some (zup σ q (.inl (kd, n, .inl (upd f i.toNatClampNeg x)))) else none
  | _ => none
def aA (kd : Nat) (σ : zS) (q : Nat) (i : Int32) : Option Nat := match σ q with
  | some (.inl (c, n, .inr (.inr (.inr (.inr f))))) => if c = kd ∧ ¬ (i < 0 ∨ n ≤ i.toNatClampNeg) then f i.toNatClampNeg else none
  | _ => none
def uA (kd ci : Nat) (σ : zS) (q : Nat) (i : Int32) (v : Nat) : Option zS := match σ q, σ v with
  | some (.inl (c, n, .inr (.inr (.inr (.inr f))))), some (.inr (c2, _)) => if c = kd ∧ c2 = ci ∧ ¬ (i < 0 ∨ n ≤ i.toNatClampNeg) then some (zup σ q (.inl (kd, n, .inr (.inr (.inr (.inr (va_up f i.toNatClampNeg (some v)))))))) else none
  | _, _ => none
def aL (kd : Nat) (σ : zS) (q : Nat) : Option Int32 := match σ q with
  | some (.inl (c, n, _)) => if c = kd then some (Int32.ofNat n) else none
  | _ => none
def isO (σ : zS) (ci q : Nat) : Option Unit := match σ q with
  | some (.inr (c, _)) => if c = ci then some () else none
  | _ => none
def cpI (σ : zS) (q0 : Nat) (sp : Int32) (q1 : Nat) (dp n : Int32) : Option zS := match σ q0, σ q1 with
  | some (.inl (c0, n0, .inl f)), some (.inl (c1, n1, .inl g)) => if c0 = 1 ∧ c1 = 1 ∧ ¬ sp < 0 ∧ ¬ dp < 0 ∧ ¬ n < 0 ∧ sp.toNatClampNeg + n.toNatClampNeg ≤ n0 ∧ dp.toNatClampNeg + n.toNatClampNeg ≤ n1 then some (zup σ q1 (.inl (1, n1, .inl (va_cpy f g sp.toNatClampNeg dp.toNatClampNeg n.toNatClampNeg)))) else none
  | _, _ => none
def ckC (x : Int32) : Option Int32 := if (x.toUInt32 % 65536).toInt32 = x then some x else none
def ckZ (x : Int32) : Option Int32 := if x = 0 ∨ x = 1 then some x else none
def ckD (y : Int32) : Option Unit := if y = 0 then none else some ()
def ckDL (y : Int64) : Option Unit := if y = 0 then none else some ()
def imin (x y : Int32) : Int32 := if y < x then y else x
def imax (x y : Int32) : Int32 := if x < y then y else x
def iabs (x : Int32) : Int32 := if 0 ≤ x then x else 0 - x
theorem ob {α β : Type} {x : Option α} {f : α → Option β} {r : β} (h : x.bind f = some r) : ∃ a, x = some a ∧ f a = some r := by
  cases x with
  | none => cases h
  | some a => exact ⟨a, rfl, h⟩
theorem ckD_ne {y : Int32} {u : Unit} (h : ckD y = some u) : ¬ y = 0 := by
  unfold ckD at h
  split at h
  · cases h
  · assumption
theorem ckDL_ne {y : Int64} {u : Unit} (h : ckDL y = some u) : ¬ y = 0 := by
  unfold ckDL at h
  split at h
  · cases h
  · assumption
def ckN (r : UInt32) : Option Unit := if r &&& 0x7fffffff ≤ 0x7f800000 then some () else none
theorem ckN_n {r : UInt32} {u : Unit} (h : ckN r = some u) : vf_n32 r := by
  unfold ckN at h
  split at h
  · assumption
  · cases h
def irem (x y : Int32) : Int32 := x - x / y * y
def iushr (x y : Int32) : Int32 := (x.toUInt32 >>> (y.toUInt32 &&& Int32.toUInt32 31)).toInt32
def lshl (x : Int64) (y : Int32) : Int64 := x <<< (y.toInt64 &&& 63)
def i2c (x : Int32) : Int32 := (x.toUInt32 % 65536).toInt32
def b2 {α β γ : Type} (x : Option (α × β)) (f : α → β → Option γ) : Option γ := x.bind fun p => f p.1 p.2
def b3 {α β δ γ : Type} (x : Option (α × β × δ)) (f : α → β → δ → Option γ) : Option γ := x.bind fun p => f p.1 p.2.1 p.2.2
def b4 {α β δ ε γ : Type} (x : Option (α × β × δ × ε)) (f : α → β → δ → ε → Option γ) : Option γ := x.bind fun p => f p.1 p.2.1 p.2.2.1 p.2.2.2
def b5 {α β δ ε ζ γ : Type} (x : Option (α × β × δ × ε × ζ)) (f : α → β → δ → ε → ζ → Option γ) : Option γ := x.bind fun p => f p.1 p.2.1 p.2.2.1 p.2.2.2.1 p.2.2.2.2
theorem o2 {α β γ : Type} {x : Option (α × β)} {f : α → β → Option γ} {r : γ} (h : b2 x f = some r) : ∃ a b, x = some (a, b) ∧ f a b = some r := by
  cases x with
  | none => cases h
  | some p => exact ⟨p.1, p.2, rfl, h⟩
theorem o3 {α β δ γ : Type} {x : Option (α × β × δ)} {f : α → β → δ → Option γ} {r : γ} (h : b3 x f = some r) : ∃ a b c, x = some (a, b, c) ∧ f a b c = some r := by
  cases x with
  | none => cases h
  | some p => exact ⟨p.1, p.2.1, p.2.2, rfl, h⟩
theorem o4 {α β δ ε γ : Type} {x : Option (α × β × δ × ε)} {f : α → β → δ → ε → Option γ} {r : γ} (h : b4 x f = some r) : ∃ a b c d, x = some (a, b, c, d) ∧ f a b c d = some r := by
  cases x with
  | none => cases h
  | some p => exact ⟨p.1, p.2.1, p.2.2.1, p.2.2.2, rfl, h⟩
theorem o5 {α β δ ε ζ γ : Type} {x : Option (α × β × δ × ε × ζ)} {f : α → β → δ → ε → ζ → Option γ} {r : γ} (h : b5 x f = some r) : ∃ a b c d e, x = some (a, b, c, d, e) ∧ f a b c d e = some r := by
  cases x with
  | none => cases h
  | some p => exact ⟨p.1, p.2.1, p.2.2.1, p.2.2.2.1, p.2.2.2.2, rfl, h⟩
def bs {ρ ε γ : Type} (x : Option (ρ ⊕ ε)) (f : ρ → Option γ) (g : ε → Option γ) : Option γ := match x with
  | none => none
  | some (.inl r) => f r
  | some (.inr r) => g r
theorem obs {ρ ε γ : Type} {x : Option (ρ ⊕ ε)} {f : ρ → Option γ} {g : ε → Option γ} {r : γ} (h : bs x f g = some r) : (∃ a, x = some (.inl a) ∧ f a = some r) ∨ ∃ a, x = some (.inr a) ∧ g a = some r := by
  match x, h with
  | none, h => cases h
  | some (.inl a), h => exact Or.inl ⟨a, rfl, h⟩
  | some (.inr a), h => exact Or.inr ⟨a, rfl, h⟩
theorem oe {α β : Type} {x : Option α} {a : Option β} {f : α → Option β} {r : β} (h : Option.elim x a f = some r) : (x = none ∧ a = some r) ∨ ∃ y, x = some y ∧ f y = some r := by
  cases x with
  | none => exact Or.inl ⟨rfl, h⟩
  | some y => exact Or.inr ⟨y, rfl, h⟩
theorem zne {x k : Int32} {a : Int} (h : ¬ x = k) (hk : k.toInt = a) : x.toInt ≠ a := fun q => h (Int32.toInt_inj.mp (q.trans hk.symm))
theorem pj3 {α β γ : Type} {a a' : α} {b b' : β} {c c' : γ} (h : (a, b, c) = (a', b', c')) : a = a' ∧ b = b' ∧ c = c' := by
  cases h
  exact ⟨rfl, rfl, rfl⟩
theorem pj4 {α β γ δ : Type} {a a' : α} {b b' : β} {c c' : γ} {d d' : δ} (h : (a, b, c, d) = (a', b', c', d')) : a = a' ∧ b = b' ∧ c = c' ∧ d = d' := by
  cases h
  exact ⟨rfl, rfl, rfl, rfl⟩
