/-! Pure, 4: rows stay rows; one row mingled into another -/
theorem nS_one {f f' : Nat → Nat} {i c : Nat} (hi : f' i ≤ f i + c) (h : ∀ x, x ≠ i → f' x = f x) : ∀ d j, nS f' d j ≤ nS f d j + c
  | 0, _ => Nat.zero_le _
  | d + 1, j => by
    rw [nS, nS]
    by_cases e : j = i
    · subst e
      rw [nS_cong (f := f') (g := f) d (j + 1) (fun x h1 _ => h x (by omega))]
      omega
    · have := nS_one hi h d (j + 1)
      rw [h j e]
      omega
theorem nS_add {f f1 f2 : Nat → Nat} : ∀ d j, (∀ x, j ≤ x → x < j + d → f x ≤ f1 x + f2 x) → nS f d j ≤ nS f1 d j + nS f2 d j
  | 0, _, _ => Nat.zero_le _
  | d + 1, j, h => by
    have h1 := h j (Nat.le_refl j) (by omega)
    have h2 := nS_add (f := f) (f1 := f1) (f2 := f2) d (j + 1) (fun x a b => h x (by omega) (by omega))
    rw [nS, nS, nS]
    omega
theorem pcN_or : ∀ k x y, pcN k (x ||| y) ≤ pcN k x + pcN k y
  | 0, _, _ => Nat.zero_le _
  | k + 1, x, y => by
    have h := pcN_or k (x / 2) (y / 2)
    have h1 : (x ||| y) % 2 ≤ x % 2 + y % 2 := by
      have := Nat.or_mod_two_pow (a := x) (b := y) (n := 1)
      rw [show (2 : Nat) ^ 1 = 2 from rfl] at this
      rw [this]
      rcases Nat.mod_two_eq_zero_or_one x with a | a <;> rcases Nat.mod_two_eq_zero_or_one y with b | b <;> rw [a, b] <;> decide
    have h2 : (x ||| y) / 2 = x / 2 ||| y / 2 := by
      have := Nat.or_div_two_pow (a := x) (b := y) (n := 1)
      rw [show (2 : Nat) ^ 1 = 2 from rfl] at this
      exact this
    rw [pcN, pcN, pcN, h2]
    omega
theorem bN_or (x y : Int32) : bN (x ||| y) ≤ bN x + bN y := by
  unfold bN
  rw [Int32.toBitVec_or, BitVec.toNat_or]
  exact pcN_or 32 _ _
theorem bN_bit {h : Nat} (hh : h < 65536) : bN (bitI h) ≤ 1 := by
  have : ∀ k, k < 32 → bN ((1 : Int32) <<< (nI k &&& 31)) ≤ 1 := by decide +kernel
  exact this (h / 2048) (by omega)
theorem rW_lit {r : Nat → Int32} (h : rW r) (b : Int32) : rW (fun j => if j = 4 then b else r j) := ⟨h.1, h.2.1, h.2.2.1, h.2.2.2.1, fun j hj => by simp only [if_neg (show ¬ 6 + j = 4 by omega)]; exact h.2.2.2.2.1 j hj, fun j hj => by simp only [if_neg (show ¬ 14 + j = 4 by omega)]; exact h.2.2.2.2.2 j hj⟩
theorem rW_rg {r : Nat → Int32} (h : rW r) {i g : Nat} (hg : g ≤ 14) : rW (rgR r i (nI g)) := by
  refine ⟨by rw [show rgR r i (nI g) 0 = r 0 from if_neg (by omega)]; exact h.1, by rw [show rgR r i (nI g) 1 = r 1 from if_neg (by omega)]; exact h.2.1, by rw [show rgR r i (nI g) 2 = r 2 from if_neg (by omega)]; exact h.2.2.1, by rw [show rgR r i (nI g) 5 = r 5 from if_neg (by omega)]; exact h.2.2.2.1, fun j hj => by rw [show rgR r i (nI g) (6 + j) = r (6 + j) from if_neg (by omega)]; exact h.2.2.2.2.1 j hj, fun j hj => ?_⟩
  unfold rgR
  by_cases c : 14 + j = 14 + i
  · rw [if_pos c, ← c]
    by_cases c2 : nI g ≤ r (14 + j)
    · rw [if_pos c2]
      exact h.2.2.2.2.2 j hj
    · rw [if_neg c2]
      exact ⟨g, hg, rfl⟩
  · rw [if_neg c]
    exact h.2.2.2.2.2 j hj
theorem khR_5 (r : Nat → Int32) (h : Int32) (hr : rW r) : ∃ k : Nat, k ≤ 8 ∧ k ≤ ktN r + 1 ∧ khR r h 5 = nI k := by
  have hk := hr.kt
  unfold khR
  by_cases c : plN r h = 8 ∨ (plN r h < ktN r ∧ r (6 + plN r h) = h)
  · rw [if_pos c]
    exact ⟨ktN r, hk.1, by omega, hk.2⟩
  · rw [if_neg c, if_pos rfl]
    exact ⟨min (ktN r + 1) 8, by omega, by omega, rfl⟩
theorem rW_kh {r : Nat → Int32} (hr : rW r) {h : Nat} (hh : h < 65536) : rW (khR r (nI h)) := by
  have hk := hr.kt
  obtain ⟨k5, a1, -, a2⟩ := khR_5 r (nI h) hr
  refine ⟨by rw [khR_get _ _ (by omega) (by omega) hk.1]; exact hr.1, by rw [khR_get _ _ (by omega) (by omega) hk.1]; exact hr.2.1, by rw [khR_get _ _ (by omega) (by omega) hk.1]; exact hr.2.2.1, ⟨k5, a1, a2⟩, fun j hj => ?_, fun j hj => by rw [khR_get _ _ (by omega) (by omega) hk.1]; exact hr.2.2.2.2.2 j hj⟩
  unfold khR
  by_cases c : plN r (nI h) = 8 ∨ (plN r (nI h) < ktN r ∧ r (6 + plN r (nI h)) = nI h)
  · rw [if_pos c]
    exact hr.2.2.2.2.1 j hj
  · rw [if_neg c, if_neg (by omega)]
    by_cases c2 : 6 + j = 6 + plN r (nI h)
    · rw [if_pos c2]
      exact ⟨h, hh, rfl⟩
    · rw [if_neg c2]
      unfold shf
      by_cases c3 : 6 + plN r (nI h) < 6 + j ∧ 6 + j ≤ 6 + plN r (nI h) + (min (ktN r) 7 - plN r (nI h))
      · rw [if_pos c3, show 6 + j - 1 = 6 + (j - 1) by omega]
        exact hr.2.2.2.2.1 (j - 1) (by omega)
      · rw [if_neg c3]
        exact hr.2.2.2.2.1 j hj
theorem rW_ks {r : Nat → Int32} (hr : rW r) {h : Nat} (hh : h < 65536) : rW (ksR r h) := by
  unfold ksR
  split
  · exact rW_lit hr _
  · split
    · exact rW_kh hr hh
    · have := rkS_in 13 1 (h / 8)
      exact rW_rg hr (by omega)
/-- a row of a table: what it keeps is no more than what was added -/
def WR (r : Nat → Int32) : Prop := rW r ∧ lowN r ≤ (r 2).toNatClampNeg
theorem WR.lh {r : Nat → Int32} (h : WR r) : lowN r ≤ highN r := by
  have := lowN_le r h.1
  have := h.2
  unfold highN
  omega
theorem ktN_of {r : Nat → Int32} {k : Nat} (h : r 5 = nI k) (hk : k < 2 ^ 31) : ktN r = k := by unfold ktN; rw [h, nI_clamp hk]
theorem ksR_0 (r : Nat → Int32) (h : Nat) (hk : ktN r ≤ 8) : ksR r h 0 = r 0 ∧ ksR r h 1 = r 1 ∧ ksR r h 3 = r 3 ∧ ksR r h 2 = r 2 := by
  unfold ksR
  split
  · exact ⟨rfl, rfl, rfl, rfl⟩
  · split
    · exact ⟨khR_get _ _ (by omega) (by omega) hk, khR_get _ _ (by omega) (by omega) hk, khR_get _ _ (by omega) (by omega) hk, khR_get _ _ (by omega) (by omega) hk⟩
    · exact ⟨if_neg (by omega), if_neg (by omega), if_neg (by omega), if_neg (by omega)⟩
theorem low_ks {r : Nat → Int32} (hr : rW r) {h : Nat} (hh : h < 65536) : lowN (ksR r h) ≤ lowN r + 1 := by
  have e0 := (ksR_0 r h hr.kt.1).1
  unfold lowN
  rw [e0]
  by_cases h0 : r 0 = 0
  · rw [if_pos h0, if_pos h0]
    have e4 : ksR r h 4 = r 4 ||| bitI h := by unfold ksR; rw [if_pos h0]; rfl
    have b1 := bN_or (r 4) (bitI h)
    have b2 := bN_bit hh
    rw [e4]
    omega
  · rw [if_neg h0, if_neg h0]
    by_cases h1 : r 0 = 1
    · rw [if_pos h1, if_pos h1]
      obtain ⟨k5, a1, a3, a2⟩ := khR_5 r (nI h) hr
      have e : ksR r h = khR r (nI h) := by unfold ksR; rw [if_neg h0, if_pos h1]
      rw [e, ktN_of a2 (by omega)]
      exact a3
    · rw [if_neg h1, if_neg h1]
      have e : ksR r h = rgR r (h % 8) (nI (rkS 13 1 (h / 8))) := by unfold ksR; rw [if_neg h0, if_neg h1]
      rw [e]
      unfold fcN
      refine nS_one (i := h % 8) ?_ (fun x hx => ?_) 8 0
      · split <;> split <;> omega
      · rw [show rgR r (h % 8) (nI (rkS 13 1 (h / 8))) (14 + x) = r (14 + x) from if_neg (by omega)]
theorem lowN_ad (r : Nat → Int32) (a : Int32) : lowN (adR r a) = lowN r := by
  have e : ∀ j, j ≠ 2 → adR r a j = r j := fun j hj => if_neg hj
  unfold lowN ktN
  rw [e 0 (by decide), e 4 (by decide), e 5 (by decide)]
  have : fcN (adR r a) = fcN r := nS_cong 8 0 (fun i _ _ => by rw [e (14 + i) (by omega)])
  rw [this]
theorem WR_tk {r : Nat → Int32} (h : WR r) {x : Nat} (hx : x < 65536) : WR (tkR r x) := by
  have hk := h.1.ad
  refine ⟨(rW_ks h.1 hx).ad' (by omega), ?_⟩
  have h1 := low_ks h.1 hx
  have h2 := lowN_le _ (rW_ks h.1 hx)
  have h3 := h.2
  unfold tkR
  rw [lowN_ad, show adR (ksR r x) (nI (min ((r 2).toNatClampNeg + 1) 1000000000)) 2 = nI (min ((r 2).toNatClampNeg + 1) 1000000000) from rfl, nI_clamp (by omega)]
  omega
-- mingling
def itH (r' : Nat → Int32) : Nat → Nat → (Nat → Int32) → Nat → Int32
  | 0, _, r => r
  | d + 1, i, r => itH r' d (i + 1) (khR r (r' (6 + i)))
def itG (r' : Nat → Int32) : Nat → Nat → (Nat → Int32) → Nat → Int32
  | 0, _, r => r
  | d + 1, i, r => itG r' d (i + 1) (rgR r i (r' (14 + i)))
def mgR (r r' : Nat → Int32) : Nat → Int32 := itG r' 8 0 (itH r' (ktN r') 0 (fun j => if j = 4 then r 4 ||| r' 4 else r j))
theorem itH_W {r' : Nat → Int32} (hr' : rW r') : ∀ d i r, i + d ≤ 8 → rW r → rW (itH r' d i r) ∧ ktN (itH r' d i r) ≤ ktN r + d ∧ ∀ j, (j < 5 ∨ 14 ≤ j) → itH r' d i r j = r j
  | 0, i, r, _, hr => ⟨hr, Nat.le_refl _, fun _ _ => rfl⟩
  | d + 1, i, r, hi, hr => by
    have hh := hr'.hs (j := i) (by omega)
    have hw : rW (khR r (r' (6 + i))) := by rw [hh.2]; exact rW_kh hr hh.1
    obtain ⟨k5, a1, a3, a2⟩ := khR_5 r (r' (6 + i)) hr
    obtain ⟨b1, b2, b3⟩ := itH_W hr' d (i + 1) (khR r (r' (6 + i))) (by omega) hw
    rw [ktN_of a2 (by omega)] at b2
    refine ⟨b1, by rw [itH]; omega, fun j hj => ?_⟩
    rw [itH, b3 j hj, khR_get _ _ (by omega) (by omega) hr.kt.1]
theorem itG_W {r' : Nat → Int32} (hr' : rW r') : ∀ d i r, i + d ≤ 8 → rW r → rW (itG r' d i r) ∧ (∀ j, j < 14 + i → itG r' d i r j = r j) ∧ (∀ j, 14 + i + d ≤ j → itG r' d i r j = r j) ∧ ∀ j, i ≤ j → j < i + d → itG r' d i r (14 + j) = if r' (14 + j) ≤ r (14 + j) then r (14 + j) else r' (14 + j)
  | 0, i, r, _, hr => ⟨hr, fun _ _ => rfl, fun _ _ => rfl, fun j h1 h2 => by omega⟩
  | d + 1, i, r, hi, hr => by
    obtain ⟨g, hg, eg⟩ := hr'.2.2.2.2.2 i (by omega)
    have hw : rW (rgR r i (r' (14 + i))) := by rw [eg]; exact rW_rg hr hg
    obtain ⟨b1, b2, b3, b4⟩ := itG_W hr' d (i + 1) (rgR r i (r' (14 + i))) (by omega) hw
    refine ⟨b1, fun j hj => ?_, fun j hj => ?_, fun j h1 h2 => ?_⟩
    · rw [itG, b2 j (by omega)]
      exact if_neg (by omega)
    · rw [itG, b3 j (by omega)]
      exact if_neg (by omega)
    · rw [itG]
      by_cases c : j = i
      · subst c
        rw [b2 _ (by omega)]
        exact if_pos rfl
      · rw [b4 j (by omega) (by omega), show rgR r i (r' (14 + i)) (14 + j) = r (14 + j) from if_neg (by omega)]
theorem mgR_W {r r' : Nat → Int32} (hr : rW r) (hr' : rW r') : rW (mgR r r') ∧ (∀ j, j < 4 → mgR r r' j = r j) ∧ mgR r r' 22 = r 22 := by
  have hk := hr'.kt
  obtain ⟨a1, a2, a3⟩ := itH_W hr' (ktN r') 0 _ (by omega) (rW_lit hr (r 4 ||| r' 4))
  obtain ⟨b1, b2, b3, b4⟩ := itG_W hr' 8 0 _ (by omega) a1
  refine ⟨b1, fun j hj => ?_, ?_⟩
  · unfold mgR
    rw [b2 j (by omega), a3 j (by omega), if_neg (by omega)]
  · unfold mgR
    rw [b3 22 (by omega), a3 22 (by omega), if_neg (by omega)]
theorem low_mg {r r' : Nat → Int32} (hr : rW r) (hr' : rW r') (e0 : r 0 = r' 0) : lowN (mgR r r') ≤ lowN r + lowN r' := by
  have hk := hr'.kt
  obtain ⟨a1, a2, a3⟩ := itH_W hr' (ktN r') 0 _ (by omega) (rW_lit hr (r 4 ||| r' 4))
  obtain ⟨b1, b2, b3, b4⟩ := itG_W hr' 8 0 _ (by omega) a1
  have c0 : mgR r r' 0 = r 0 := (mgR_W hr hr').2.1 0 (by omega)
  unfold lowN
  rw [c0, ← e0]
  by_cases h0 : r 0 = 0
  · rw [if_pos h0, if_pos h0, if_pos h0]
    have : mgR r r' 4 = r 4 ||| r' 4 := by
      unfold mgR
      rw [b2 4 (by omega), a3 4 (by omega), if_pos rfl]
    rw [this]
    exact bN_or _ _
  · rw [if_neg h0, if_neg h0, if_neg h0]
    by_cases h1 : r 0 = 1
    · rw [if_pos h1, if_pos h1, if_pos h1]
      have : ktN (mgR r r') = ktN (itH r' (ktN r') 0 (fun j => if j = 4 then r 4 ||| r' 4 else r j)) := by
        unfold ktN
        rw [show mgR r r' 5 = _ from b2 5 (by omega)]
        rfl
      rw [this]
      exact a2
    · rw [if_neg h1, if_neg h1, if_neg h1]
      unfold fcN
      refine nS_add 8 0 (fun x _ hx => ?_)
      have : mgR r r' (14 + x) = if r' (14 + x) ≤ r (14 + x) then r (14 + x) else r' (14 + x) := by
        unfold mgR
        rw [b4 x (by omega) (by omega), a3 _ (by omega)]
        simp only [if_neg (show ¬ 14 + x = 4 by omega)]
      rw [this]
      split
      · split <;> split <;> omega
      · split <;> split <;> omega
