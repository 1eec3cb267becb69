/-! the pure picture: who is a member, how many children, the way laid out, a run over the ways, the line -/
theorem gi_m1 {p : Nat} (h : p < 2 ^ 31) : ¬ nI p = -1 := by
  intro e
  have h0 := nI_pos h
  rw [e] at h0
  exact h0 (by decide)
def gi_cc (a : Nat → Int32) : Nat → Nat
  | 0 => 0
  | n + 1 => if a n = -1 then gi_cc a n else gi_cc a n + 1
def gi_P (a b : Nat → Int32) (i : Nat) : Prop := a i = -1 ∨ ∃ p q : Nat, p < i ∧ q < i ∧ a i = nI p ∧ b i = nI q
def gi_G (a b ls : Nat → Int32) (i : Nat) : Prop :=
  (a i = -1 ∧ ls i = (1 : Int32) <<< (nI i &&& 31)) ∨ (∃ p q : Nat, p < i ∧ q < i ∧ a i = nI p ∧ b i = nI q ∧ ls i = ((1 : Int32) <<< (nI i &&& 31) ||| ls p) ||| ls q)
theorem gi_GP {a b ls : Nat → Int32} {i : Nat} (h : gi_G a b ls i) : gi_P a b i := by
  rcases h with ⟨h, _⟩ | ⟨p, q, hp, hq, ha, hb, _⟩
  · exact Or.inl h
  · exact Or.inr ⟨p, q, hp, hq, ha, hb⟩
theorem gi_cc_lt {a b : Nat → Int32} {n : Nat} (hP : ∀ i, i < n → gi_P a b i) : ∀ m, m ≤ n → (m = 0 ∧ gi_cc a m = 0) ∨ gi_cc a m + 1 ≤ m := by
  intro m
  induction m with
  | zero => intro _; exact Or.inl ⟨rfl, rfl⟩
  | succ m ih =>
    intro h
    have ih := ih (by omega)
    refine Or.inr ?_
    show (if a m = -1 then gi_cc a m else gi_cc a m + 1) + 1 ≤ m + 1
    by_cases z : a m = -1
    · rw [if_pos z]; omega
    · rw [if_neg z]
      rcases ih with ⟨h0, h1⟩ | h1
      · rw [h0] at z
        rcases hP 0 (by omega) with hh | ⟨p, q, hp, _⟩
        · exact absurd hh z
        · omega
      · omega
theorem gi_cc_6 {a b : Nat → Int32} {n : Nat} (hn : n ≤ 7) (hP : ∀ i, i < n → gi_P a b i) : gi_cc a n ≤ 6 := by
  rcases gi_cc_lt hP n (Nat.le_refl n) with ⟨h0, h1⟩ | h1 <;> omega
theorem gi_cc_s6 {a b : Nat → Int32} {n : Nat} (hn : n < 7) (hP : ∀ i, i < n → gi_P a b i) : gi_cc a n < 6 := by
  rcases gi_cc_lt hP n (Nat.le_refl n) with ⟨h0, h1⟩ | h1 <;> omega
theorem gi_cc_upd {a : Nat → Int32} {n : Nat} {x : Int32} : ∀ m, m ≤ n → gi_cc (upd a n x) m = gi_cc a m := by
  intro m
  induction m with
  | zero => intro _; rfl
  | succ m ih =>
    intro h
    show (if upd a n x m = -1 then gi_cc (upd a n x) m else gi_cc (upd a n x) m + 1) = (if a m = -1 then gi_cc a m else gi_cc a m + 1)
    rw [pk_un (show m ≠ n by omega), ih (by omega)]
theorem gi_ccF {a : Nat → Int32} {n : Nat} (h : a n = -1) : gi_cc a (n + 1) = gi_cc a n := if_pos h
theorem gi_ccC {a : Nat → Int32} {n : Nat} (h : ¬ a n = -1) : gi_cc a (n + 1) = gi_cc a n + 1 := if_neg h
theorem gi_ways : ∀ c, c < 7 → (1 : Int32) <<< ((2 * nI c) &&& 31) = nI (4 ^ c) := by decide +kernel
theorem gi_4096 : ∀ c, c < 7 → 4 ^ c ≤ 4096 := by decide
/-- the genes of the members from i on, laid out by the choices r -/
def gi_lay (a b : Nat → Int32) : Nat → Nat → Nat → (Nat → Int32) → Nat → Int32
  | 0, _, _, o => o
  | d + 1, i, r, o =>
    if a i = -1 then gi_lay a b d (i + 1) r (upd (upd o (2 * i) (nI (2 * i))) (2 * i + 1) (nI (2 * i + 1)))
    else gi_lay a b d (i + 1) (r / 4) (upd (upd o (2 * i) (o (2 * (a i).toNatClampNeg + r % 2))) (2 * i + 1) (upd o (2 * i) (o (2 * (a i).toNatClampNeg + r % 2)) (2 * (b i).toNatClampNeg + r / 2 % 2)))
theorem gi_layF {a b : Nat → Int32} {d i r : Nat} {o : Nat → Int32} (h : a i = -1) : gi_lay a b (d + 1) i r o = gi_lay a b d (i + 1) r (upd (upd o (2 * i) (nI (2 * i))) (2 * i + 1) (nI (2 * i + 1))) := if_pos h
theorem gi_layC {a b : Nat → Int32} {d i r p q : Nat} {o : Nat → Int32} (hp : p < 2 ^ 31) (hq : q < 2 ^ 31) (h : a i = nI p) (h' : b i = nI q) : gi_lay a b (d + 1) i r o = gi_lay a b d (i + 1) (r / 4) (upd (upd o (2 * i) (o (2 * p + r % 2))) (2 * i + 1) (upd o (2 * i) (o (2 * p + r % 2)) (2 * q + r / 2 % 2))) := by
  have e : ¬ a i = -1 := by rw [h]; exact gi_m1 hp
  refine (if_neg e).trans ?_
  rw [h, h', nI_clamp hp, nI_clamp hq]
theorem gi_layV {a b : Nat → Int32} : ∀ d i r : Nat, ∀ o : Nat → Int32, (∀ t, t < i + d → gi_P a b t) → i + d ≤ 7 → (∀ j, j < 2 * i → ∃ g : Nat, g < 14 ∧ o j = nI g) → ∀ j, j < 2 * (i + d) → ∃ g : Nat, g < 14 ∧ gi_lay a b d i r o j = nI g := by
  intro d
  induction d with
  | zero => intro i r o _ _ h j hj; exact h j (by omega)
  | succ d ih =>
    intro i r o hP hd h j hj
    rcases hP i (by omega) with hf | ⟨p, q, hp, hq, ha, hb⟩
    · rw [gi_layF hf]
      refine ih (i + 1) r _ (fun t ht => hP t (by omega)) (by omega) ?_ j (by omega)
      intro s hs
      by_cases e1 : s = 2 * i + 1
      · rw [e1, pk_us]; exact ⟨_, by omega, rfl⟩
      · rw [pk_un e1]
        by_cases e2 : s = 2 * i
        · rw [e2, pk_us]; exact ⟨_, by omega, rfl⟩
        · rw [pk_un e2]; exact h s (by omega)
    · rw [gi_layC (by omega) (by omega) ha hb]
      refine ih (i + 1) (r / 4) _ (fun t ht => hP t (by omega)) (by omega) ?_ j (by omega)
      intro s hs
      by_cases e1 : s = 2 * i + 1
      · rw [e1, pk_us, pk_un (show 2 * q + r / 2 % 2 ≠ 2 * i by omega)]; exact h _ (by omega)
      · rw [pk_un e1]
        by_cases e2 : s = 2 * i
        · rw [e2, pk_us]; exact h _ (by omega)
        · rw [pk_un e2]; exact h s (by omega)
/-- the run over d ways from way w on: each lays the genes out, and brings the count on -/
def gi_run (L : Nat → (Nat → Int32) → Nat → Int32) (K : (Nat → Int32) → Int32 → Int32) : Nat → Nat → Int32 → (Nat → Int32) → Int32 × (Nat → Int32)
  | 0, _, c, o => (c, o)
  | d + 1, w, c, o => gi_run L K d (w + 1) (K (L w o) c) (L w o)
theorem gi_run_eq {L : Nat → (Nat → Int32) → Nat → Int32} {K K' : (Nat → Int32) → Int32 → Int32} (h : ∀ w o c, K (L w o) c = K' (L w o) c) : ∀ d w c o, gi_run L K d w c o = gi_run L K' d w c o := by
  intro d
  induction d with
  | zero => intro w c o; rfl
  | succ d ih =>
    intro w c o
    show gi_run L K d (w + 1) (K (L w o) c) (L w o) = gi_run L K' d (w + 1) (K' (L w o) c) (L w o)
    rw [h, ih]
/-- the choices c, c + 1 .. of one way, each bringing the count on -/
def gi_sm (f : Nat → Int32) : Nat → Nat → Int32 → Int32
  | 0, _, m => m
  | d + 1, c, m => gi_sm f d (c + 1) (m + f c)
def gi_e (x y : Int32) : Int32 := if x = y then 1 else 0
theorem gi_e1 {x y : Int32} (h : x = y) : gi_e x y = 1 := if_pos h
theorem gi_e0 {x y : Int32} (h : ¬ x = y) : gi_e x y = 0 := if_neg h
def gi_cop (o : Nat → Int32) (g : Int32) (j : Nat) : Int32 := gi_e g (o (2 * j)) + gi_e g (o (2 * j + 1))
