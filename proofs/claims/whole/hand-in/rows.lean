section
/-! rows pasted from the rows given for pasting -/
theorem pk_us {f : Nat → Int32} {k : Nat} {x : Int32} : upd f k x k = x := if_pos rfl
theorem pk_un {f : Nat → Int32} {k j : Nat} {x : Int32} (h : j ≠ k) : upd f k x j = f j := if_neg h
theorem pk_sub {a b : Nat} (h : b ≤ a) : nI a - nI b = nI (a - b) := by
  obtain ⟨c, rfl⟩ : ∃ c, a = c + b := ⟨a - b, by omega⟩
  rw [← nI_add, Int32.add_sub_cancel, Nat.add_sub_cancel]
theorem pk_m1 (n : Nat) : nI (n + 1) + (-1) = nI n := by
  rw [← nI_1, Int32.add_assoc, show (1 : Int32) + (-1) = 0 from rfl, Int32.add_zero]
theorem pk_mul (a b : Nat) : nI a * nI b = nI (a * b) := (Int32.ofNat_mul a b).symm
theorem pk_div {a d : Nat} (ha : a < 2 ^ 31) (h0 : 0 < d) (hd : d < 2 ^ 31) : nI a / nI d = nI (a / d) := by
  apply Int32.toInt_inj.mp
  rw [lg_idiv_nonneg (by rw [nI_toInt ha]; omega) (by rw [nI_toInt hd]; omega), nI_toInt ha, nI_toInt hd, nI_toInt (Nat.lt_of_le_of_lt (Nat.div_le_self a d) ha)]
  first | rfl | exact (Int.natCast_ediv _ _).symm
theorem pk_rem {a d : Nat} (ha : a < 2 ^ 31) (h0 : 0 < d) (hd : d < 2 ^ 31) : nI a - nI a / nI d * nI d = nI (a % d) := by
  rw [pk_div ha h0 hd, pk_mul, pk_sub (Nat.div_mul_le_self a d)]
  exact congrArg nI (by have := Nat.div_add_mod' a d; omega)
theorem pk_ix (x : Int32) {n : Nat} (hn : n < 2 ^ 31) : x < 0 ∨ nI n ≤ x ∨ ∃ j : Nat, j < n ∧ x = nI j := by
  by_cases h : x < 0
  · exact Or.inl h
  · obtain ⟨j, hj, rfl⟩ := nI_of h
    by_cases h2 : j < n
    · exact Or.inr (Or.inr ⟨j, h2, rfl⟩)
    · exact Or.inr (Or.inl (nI_le (by omega) hj))
theorem pk_le {x y : Int32} {A B : Prop} (a b : Nat) (f : a ≤ b → A) (g : b < a → B) (hx : x = nI a := by rfl) (hy : y = nI b := by rfl) (ha : a < 2 ^ 31 := by omega) (hb : b < 2 ^ 31 := by omega) : (x ≤ y → A) ∧ (¬ x ≤ y → B) := by
  subst hx hy
  rw [nI_leI ha hb]
  exact ⟨f, fun z => g (by omega)⟩
theorem pk_lt {x y : Int32} {A B : Prop} (a b : Nat) (f : a < b → A) (g : b ≤ a → B) (hx : x = nI a := by rfl) (hy : y = nI b := by rfl) (ha : a < 2 ^ 31 := by omega) (hb : b < 2 ^ 31 := by omega) : (x < y → A) ∧ (¬ x < y → B) := by
  subst hx hy
  rw [nI_ltI ha hb]
  exact ⟨f, fun z => g (by omega)⟩
theorem pk_eq {x y : Int32} {A B : Prop} (a b : Nat) (f : a = b → A) (g : a ≠ b → B) (hx : x = nI a := by rfl) (hy : y = nI b := by rfl) (ha : a < 2 ^ 31 := by omega) (hb : b < 2 ^ 31 := by omega) : (x = y → A) ∧ (¬ x = y → B) := by
  subst hx hy
  rw [nI_eq ha hb]
  exact ⟨f, g⟩
theorem pk_in {x : Int32} (n N : Nat) (h : n < N) (hx : x = nI n := by rfl) (hN : N < 2 ^ 31 := by omega) : vp_in x N := by
  subst hx
  exact vp_in_nI h hN
theorem pk_cl {x : Int32} (n : Nat) (hx : x = nI n := by rfl) (h : n < 2 ^ 31 := by omega) : x.toNatClampNeg = n := by
  subst hx
  exact nI_clamp h
theorem pk_tn {n : Nat} (h : n < 2 ^ 32) : (nI n).toBitVec.toNat = n := Nat.mod_eq_of_lt h
theorem pk_and (x : Int32) {m : Int32} (k : Nat) (hm : m.toBitVec.toNat = 2 ^ k - 1) : x &&& m = nI (x.toBitVec.toNat % 2 ^ k) := by
  apply Int32.toBitVec_inj.mp
  apply BitVec.eq_of_toNat_eq
  rw [Int32.toBitVec_and, BitVec.toNat_and, hm, Nat.and_two_pow_sub_one_eq_mod]
  show _ = (BitVec.ofNat 32 _).toNat
  rw [BitVec.toNat_ofNat]
  exact (Nat.mod_eq_of_lt (Nat.lt_of_le_of_lt (Nat.mod_le _ _) x.toBitVec.isLt)).symm
theorem pk_andN {n : Nat} (h : n < 2 ^ 32) {m : Int32} (k : Nat) (hm : m.toBitVec.toNat = 2 ^ k - 1) : nI n &&& m = nI (n % 2 ^ k) := by
  rw [pk_and _ k hm, pk_tn h]
theorem pk_shl (a s : Int32) (k : Nat) (hs : (s.toBitVec.smod 32).toNat = k) : (a <<< s).toBitVec.toNat = a.toBitVec.toNat * 2 ^ k % 2 ^ 32 := by
  show (a.toBitVec <<< (s.toBitVec.smod 32).toNat).toNat = _
  rw [hs, BitVec.toNat_shiftLeft, Nat.shiftLeft_eq]
theorem pk_shlN {n : Nat} (s : Int32) (k : Nat) (hs : (s.toBitVec.smod 32).toNat = k) (h : n * 2 ^ k < 2 ^ 32) : nI n <<< s = nI (n * 2 ^ k) := by
  apply Int32.toBitVec_inj.mp
  apply BitVec.eq_of_toNat_eq
  have hn : n < 2 ^ 32 := Nat.lt_of_le_of_lt (Nat.le_mul_of_pos_right n (Nat.two_pow_pos k)) h
  rw [pk_shl _ _ k hs, pk_tn hn, pk_tn h, Nat.mod_eq_of_lt h]
theorem pk_shr (a s : Int32) (k : Nat) (hs : (s.toBitVec.smod 32).toNat = k) : (a >>> s).toInt = a.toInt >>> k := by
  show (a.toBitVec.sshiftRight (s.toBitVec.smod 32).toNat).toInt = _
  rw [hs, BitVec.toInt_sshiftRight]
  rfl
theorem pk_shrN {n : Nat} (h : n < 2 ^ 31) (s : Int32) (k : Nat) (hs : (s.toBitVec.smod 32).toNat = k) : nI n >>> s = nI (n / 2 ^ k) := by
  apply Int32.toInt_inj.mp
  have h2 : n / 2 ^ k ≤ n := Nat.div_le_self _ _
  rw [pk_shr _ _ k hs, nI_toInt h, nI_toInt (by omega), Int.shiftRight_eq_div_pow]
  rfl
def bt (x : Int32) (i : Nat) : Bool := x.toBitVec.getLsbD i
theorem b_ext {x y : Int32} (h : ∀ i, i < 32 → bt x i = bt y i) : x = y := Int32.toBitVec_inj.mp (BitVec.eq_of_getLsbD_eq (fun i hi => h i hi))
theorem b_or (x y : Int32) (i : Nat) : bt (x ||| y) i = (bt x i || bt y i) := by unfold bt; rw [Int32.toBitVec_or, BitVec.getLsbD_or]
theorem b_and (x y : Int32) (i : Nat) : bt (x &&& y) i = (bt x i && bt y i) := by unfold bt; rw [Int32.toBitVec_and, BitVec.getLsbD_and]
theorem s_l : ∀ n, n < 32 → ((nI n &&& 31).toBitVec.smod 32).toNat = n := by decide +kernel
theorem b_shl (n : Nat) (hn : n < 32) (x : Int32) {i : Nat} (hi : i < 32) : bt (x <<< (nI n &&& 31)) i = (decide (n ≤ i) && bt x (i - n)) := by
  unfold bt
  rw [Int32.toBitVec_shiftLeft]
  show (x.toBitVec <<< ((nI n &&& 31).toBitVec.smod 32).toNat).getLsbD i = _
  rw [s_l n hn, BitVec.getLsbD_shiftLeft]
  rcases Nat.lt_or_ge i n with h | h
  · simp [h, Nat.not_le.mpr h]
  · simp [hi, h, Nat.not_lt.mpr h]
theorem b_sshr (n : Nat) (hn : n < 32) (x : Int32) {i : Nat} (hi : i < 32) : bt (x >>> (nI n &&& 31)) i = if n + i < 32 then bt x (n + i) else bt x 31 := by
  unfold bt
  rw [Int32.toBitVec_shiftRight]
  show (x.toBitVec.sshiftRight ((nI n &&& 31).toBitVec.smod 32).toNat).getLsbD i = _
  rw [s_l n hn, BitVec.getLsbD_sshiftRight, BitVec.msb_eq_getLsbD_last]
  simp [hi]
end
section
/-! the pure picture: who is a member, how many children, the way laid out, a run over the ways, the line -/
theorem gi_m1 {p : Nat} (h : p < 2 ^ 31) : ¬ nI p = -1 := by
  intro e
  have h0 := nI_pos h
  rw [e] at h0
  exact h0 (by decide)
def gi_cc (a : Nat → Int32) : Nat → Nat
  | 0 => 0
  | n + 1 => if a n = -1 then gi_cc a n else gi_cc a n + 1
def gi_P (a b : Nat → Int32) (i : Nat) : Prop := a i = -1 ∨ ∃ p q : Nat, p < i ∧ q < i ∧ a i = nI p ∧ b i = nI q
def gi_G (a b ls : Nat → Int32) (i : Nat) : Prop :=
  (a i = -1 ∧ ls i = (1 : Int32) <<< (nI i &&& 31)) ∨ (∃ p q : Nat, p < i ∧ q < i ∧ a i = nI p ∧ b i = nI q ∧ ls i = ((1 : Int32) <<< (nI i &&& 31) ||| ls p) ||| ls q)
theorem gi_GP {a b ls : Nat → Int32} {i : Nat} (h : gi_G a b ls i) : gi_P a b i := by
  rcases h with ⟨h, _⟩ | ⟨p, q, hp, hq, ha, hb, _⟩
  · exact Or.inl h
  · exact Or.inr ⟨p, q, hp, hq, ha, hb⟩
theorem gi_cc_lt {a b : Nat → Int32} {n : Nat} (hP : ∀ i, i < n → gi_P a b i) : ∀ m, m ≤ n → (m = 0 ∧ gi_cc a m = 0) ∨ gi_cc a m + 1 ≤ m := by
  intro m
  induction m with
  | zero => intro _; exact Or.inl ⟨rfl, rfl⟩
  | succ m ih =>
    intro h
    have ih := ih (by omega)
    refine Or.inr ?_
    show (if a m = -1 then gi_cc a m else gi_cc a m + 1) + 1 ≤ m + 1
    by_cases z : a m = -1
    · rw [if_pos z]; omega
    · rw [if_neg z]
      rcases ih with ⟨h0, h1⟩ | h1
      · rw [h0] at z
        rcases hP 0 (by omega) with hh | ⟨p, q, hp, _⟩
        · exact absurd hh z
        · omega
      · omega
theorem gi_cc_6 {a b : Nat → Int32} {n : Nat} (hn : n ≤ 7) (hP : ∀ i, i < n → gi_P a b i) : gi_cc a n ≤ 6 := by
  rcases gi_cc_lt hP n (Nat.le_refl n) with ⟨h0, h1⟩ | h1 <;> omega
theorem gi_cc_s6 {a b : Nat → Int32} {n : Nat} (hn : n < 7) (hP : ∀ i, i < n → gi_P a b i) : gi_cc a n < 6 := by
  rcases gi_cc_lt hP n (Nat.le_refl n) with ⟨h0, h1⟩ | h1 <;> omega
theorem gi_cc_upd {a : Nat → Int32} {n : Nat} {x : Int32} : ∀ m, m ≤ n → gi_cc (upd a n x) m = gi_cc a m := by
  intro m
  induction m with
  | zero => intro _; rfl
  | succ m ih =>
    intro h
    show (if upd a n x m = -1 then gi_cc (upd a n x) m else gi_cc (upd a n x) m + 1) = (if a m = -1 then gi_cc a m else gi_cc a m + 1)
    rw [pk_un (show m ≠ n by omega), ih (by omega)]
theorem gi_ccF {a : Nat → Int32} {n : Nat} (h : a n = -1) : gi_cc a (n + 1) = gi_cc a n := if_pos h
theorem gi_ccC {a : Nat → Int32} {n : Nat} (h : ¬ a n = -1) : gi_cc a (n + 1) = gi_cc a n + 1 := if_neg h
theorem gi_ways : ∀ c, c < 7 → (1 : Int32) <<< ((2 * nI c) &&& 31) = nI (4 ^ c) := by decide +kernel
theorem gi_4096 : ∀ c, c < 7 → 4 ^ c ≤ 4096 := by decide
/-- the genes of the members from i on, laid out by the choices r -/
def gi_lay (a b : Nat → Int32) : Nat → Nat → Nat → (Nat → Int32) → Nat → Int32
  | 0, _, _, o => o
  | d + 1, i, r, o =>
    if a i = -1 then gi_lay a b d (i + 1) r (upd (upd o (2 * i) (nI (2 * i))) (2 * i + 1) (nI (2 * i + 1)))
    else gi_lay a b d (i + 1) (r / 4) (upd (upd o (2 * i) (o (2 * (a i).toNatClampNeg + r % 2))) (2 * i + 1) (upd o (2 * i) (o (2 * (a i).toNatClampNeg + r % 2)) (2 * (b i).toNatClampNeg + r / 2 % 2)))
theorem gi_layF {a b : Nat → Int32} {d i r : Nat} {o : Nat → Int32} (h : a i = -1) : gi_lay a b (d + 1) i r o = gi_lay a b d (i + 1) r (upd (upd o (2 * i) (nI (2 * i))) (2 * i + 1) (nI (2 * i + 1))) := if_pos h
theorem gi_layC {a b : Nat → Int32} {d i r p q : Nat} {o : Nat → Int32} (hp : p < 2 ^ 31) (hq : q < 2 ^ 31) (h : a i = nI p) (h' : b i = nI q) : gi_lay a b (d + 1) i r o = gi_lay a b d (i + 1) (r / 4) (upd (upd o (2 * i) (o (2 * p + r % 2))) (2 * i + 1) (upd o (2 * i) (o (2 * p + r % 2)) (2 * q + r / 2 % 2))) := by
  have e : ¬ a i = -1 := by rw [h]; exact gi_m1 hp
  refine (if_neg e).trans ?_
  rw [h, h', nI_clamp hp, nI_clamp hq]
theorem gi_layV {a b : Nat → Int32} : ∀ d i r : Nat, ∀ o : Nat → Int32, (∀ t, t < i + d → gi_P a b t) → i + d ≤ 7 → (∀ j, j < 2 * i → ∃ g : Nat, g < 14 ∧ o j = nI g) → ∀ j, j < 2 * (i + d) → ∃ g : Nat, g < 14 ∧ gi_lay a b d i r o j = nI g := by
  intro d
  induction d with
  | zero => intro i r o _ _ h j hj; exact h j (by omega)
  | succ d ih =>
    intro i r o hP hd h j hj
    rcases hP i (by omega) with hf | ⟨p, q, hp, hq, ha, hb⟩
    · rw [gi_layF hf]
      refine ih (i + 1) r _ (fun t ht => hP t (by omega)) (by omega) ?_ j (by omega)
      intro s hs
      by_cases e1 : s = 2 * i + 1
      · rw [e1, pk_us]; exact ⟨_, by omega, rfl⟩
      · rw [pk_un e1]
        by_cases e2 : s = 2 * i
        · rw [e2, pk_us]; exact ⟨_, by omega, rfl⟩
        · rw [pk_un e2]; exact h s (by omega)
    · rw [gi_layC (by omega) (by omega) ha hb]
      refine ih (i + 1) (r / 4) _ (fun t ht => hP t (by omega)) (by omega) ?_ j (by omega)
      intro s hs
      by_cases e1 : s = 2 * i + 1
      · rw [e1, pk_us, pk_un (show 2 * q + r / 2 % 2 ≠ 2 * i by omega)]; exact h _ (by omega)
      · rw [pk_un e1]
        by_cases e2 : s = 2 * i
        · rw [e2, pk_us]; exact h _ (by omega)
        · rw [pk_un e2]; exact h s (by omega)
/-- the run over d ways from way w on: each lays the genes out, and brings the count on -/
def gi_run (L : Nat → (Nat → Int32) → Nat → Int32) (K : (Nat → Int32) → Int32 → Int32) : Nat → Nat → Int32 → (Nat → Int32) → Int32 × (Nat → Int32)
  | 0, _, c, o => (c, o)
  | d + 1, w, c, o => gi_run L K d (w + 1) (K (L w o) c) (L w o)
theorem gi_run_eq {L : Nat → (Nat → Int32) → Nat → Int32} {K K' : (Nat → Int32) → Int32 → Int32} (h : ∀ w o c, K (L w o) c = K' (L w o) c) : ∀ d w c o, gi_run L K d w c o = gi_run L K' d w c o := by
  intro d
  induction d with
  | zero => intro w c o; rfl
  | succ d ih =>
    intro w c o
    show gi_run L K d (w + 1) (K (L w o) c) (L w o) = gi_run L K' d (w + 1) (K' (L w o) c) (L w o)
    rw [h, ih]
/-- the choices c, c + 1 .. of one way, each bringing the count on -/
def gi_sm (f : Nat → Int32) : Nat → Nat → Int32 → Int32
  | 0, _, m => m
  | d + 1, c, m => gi_sm f d (c + 1) (m + f c)
def gi_e (x y : Int32) : Int32 := if x = y then 1 else 0
theorem gi_e1 {x y : Int32} (h : x = y) : gi_e x y = 1 := if_pos h
theorem gi_e0 {x y : Int32} (h : ¬ x = y) : gi_e x y = 0 := if_neg h
def gi_cop (o : Nat → Int32) (g : Int32) (j : Nat) : Int32 := gi_e g (o (2 * j)) + gi_e g (o (2 * j + 1))
end
section
/-! the line: the set of a member and all above it, by its bits -/
theorem gi_bt1 : ∀ s, s < 32 → bt 1 s = decide (s = 0) := by decide +kernel
theorem gi_b1 (j : Nat) (hj : j < 32) {t : Nat} (ht : t < 32) : bt ((1 : Int32) <<< (nI j &&& 31)) t = decide (t = j) := by
  rw [b_shl j hj _ ht, gi_bt1 (t - j) (by omega)]
  by_cases h : t = j
  · rw [decide_eq_true h, decide_eq_true (show j ≤ t by omega), decide_eq_true (show t - j = 0 by omega)]; rfl
  · by_cases h2 : j ≤ t
    · rw [decide_eq_false h, decide_eq_false (show ¬ t - j = 0 by omega), Bool.and_false]
    · rw [decide_eq_false h, decide_eq_false h2, Bool.false_and]
theorem gi_tb (x : Int32) (k : Nat) (hk : k < 31) : (x >>> (nI k &&& 31)) &&& 1 = 1 ↔ bt x k = true := by
  have h := b_sshr k (by omega) x (i := 0) (by omega)
  rw [if_pos (by omega), Nat.add_zero] at h
  rw [← h, pk_and _ 1 (by decide)]
  unfold bt
  rw [← BitVec.testBit_toNat, Nat.testBit_zero, decide_eq_true_iff]
  generalize (x >>> (nI k &&& 31)).toBitVec.toNat = m
  show nI (m % 2) = 1 ↔ m % 2 = 1
  rcases Nat.mod_two_eq_zero_or_one m with z | z
  · rw [z]; exact ⟨fun e => absurd e (by decide), fun e => absurd e (by decide)⟩
  · rw [z]; exact ⟨fun _ => rfl, fun _ => by decide⟩
theorem gi_self {a b ls : Nat → Int32} {i : Nat} (h : gi_G a b ls i) (hi : i < 32) : bt (ls i) i = true := by
  rcases h with ⟨_, h⟩ | ⟨p, q, _, _, _, _, h⟩
  · rw [h, gi_b1 i hi hi]; exact decide_eq_true rfl
  · rw [h, b_or, b_or, gi_b1 i hi hi, decide_eq_true rfl]; rfl
def gi_LI (ls : Nat → Int32) (i k : Nat) (x : Int32) : Prop :=
  (∀ t, t < 32 → bt x t = true → bt (ls i) t = true) ∧
  (∀ t, t < 32 → bt (ls i) t = true → bt x t = true ∨ ∃ j, j < k ∧ bt x j = true ∧ bt (ls j) t = true) ∧
  (∀ j, j < k → bt x j = true → ∀ t, t < 32 → bt (ls j) t = true → bt (ls i) t = true)
theorem gi_LIi {ls : Nat → Int32} {i : Nat} (hi : i < 32) (h : bt (ls i) i = true) : gi_LI ls i (i + 1) ((1 : Int32) <<< (nI i &&& 31)) := by
  have hb : ∀ t, t < 32 → bt ((1 : Int32) <<< (nI i &&& 31)) t = true → t = i := by
    intro t ht z
    rw [gi_b1 i hi ht] at z
    exact of_decide_eq_true z
  refine ⟨fun t ht z => ?_, fun t ht z => ?_, fun j hj z t ht y => ?_⟩
  · rw [hb t ht z]; exact h
  · refine Or.inr ⟨i, by omega, ?_, z⟩
    rw [gi_b1 i hi hi]; exact decide_eq_true rfl
  · rw [hb j (by omega) z] at y; exact y
theorem gi_LI0 {a b ls : Nat → Int32} {i m : Nat} {x : Int32} (hG : gi_G a b ls m) (hm : m < 32) (h : gi_LI ls i (m + 1) x) (hc : ¬ bt x m = true ∨ a m = -1) : gi_LI ls i m x := by
  obtain ⟨h1, h2, h3⟩ := h
  refine ⟨h1, fun t ht z => ?_, fun j hj => h3 j (by omega)⟩
  rcases h2 t ht z with y | ⟨j, hj, y1, y2⟩
  · exact Or.inl y
  · by_cases e : j = m
    · rw [e] at y1 y2
      rcases hc with c | c
      · exact absurd y1 c
      · rcases hG with ⟨_, g⟩ | ⟨p, q, hp, _, g, _⟩
        · rw [g, gi_b1 m hm ht] at y2
          have w : t = m := of_decide_eq_true y2
          rw [w]; exact Or.inl y1
        · exact absurd (g.symm.trans c) (gi_m1 (by omega))
    · exact Or.inr ⟨j, by omega, y1, y2⟩
theorem gi_LI1 {ls : Nat → Int32} {i m p q : Nat} {x : Int32} (hp : p < m) (hq : q < m) (hm : m < 32) (g : ls m = ((1 : Int32) <<< (nI m &&& 31) ||| ls p) ||| ls q) (sp : bt (ls p) p = true) (sq : bt (ls q) q = true) (h : gi_LI ls i (m + 1) x) (hx : bt x m = true) : gi_LI ls i m (x ||| ((1 : Int32) <<< (nI p &&& 31) ||| (1 : Int32) <<< (nI q &&& 31))) := by
  have hb : ∀ t, t < 32 → (bt (x ||| ((1 : Int32) <<< (nI p &&& 31) ||| (1 : Int32) <<< (nI q &&& 31))) t = true ↔ bt x t = true ∨ t = p ∨ t = q) := by
    intro t ht
    rw [b_or, b_or, gi_b1 p (by omega) ht, gi_b1 q (by omega) ht]
    simp only [Bool.or_eq_true, decide_eq_true_eq]
  have hl : ∀ t, t < 32 → (bt (ls m) t = true ↔ (t = m ∨ bt (ls p) t = true) ∨ bt (ls q) t = true) := by
    intro t ht
    rw [g, b_or, b_or, gi_b1 m hm ht]
    simp only [Bool.or_eq_true, decide_eq_true_eq]
  obtain ⟨h1, h2, h3⟩ := h
  refine ⟨fun t ht z => ?_, fun t ht z => ?_, fun j hj z t ht y => ?_⟩
  · rcases (hb t ht).mp z with z | z | z
    · exact h1 t ht z
    · rw [z]; exact h3 m (by omega) hx p (by omega) ((hl p (by omega)).mpr (Or.inl (Or.inr sp)))
    · rw [z]; exact h3 m (by omega) hx q (by omega) ((hl q (by omega)).mpr (Or.inr sq))
  · rcases h2 t ht z with y | ⟨j, hj, y1, y2⟩
    · exact Or.inl ((hb t ht).mpr (Or.inl y))
    · by_cases e : j = m
      · rw [e] at y2
        rcases (hl t ht).mp y2 with (w | w) | w
        · exact Or.inl ((hb t ht).mpr (Or.inl (by rw [w]; exact hx)))
        · exact Or.inr ⟨p, hp, (hb p (by omega)).mpr (Or.inr (Or.inl rfl)), w⟩
        · exact Or.inr ⟨q, hq, (hb q (by omega)).mpr (Or.inr (Or.inr rfl)), w⟩
      · exact Or.inr ⟨j, by omega, (hb j (by omega)).mpr (Or.inl y1), y2⟩
  · rcases (hb j (by omega)).mp z with z | z | z
    · exact h3 j (by omega) z t ht y
    · rw [z] at y; exact h3 m (by omega) hx t ht ((hl t ht).mpr (Or.inl (Or.inr y)))
    · rw [z] at y; exact h3 m (by omega) hx t ht ((hl t ht).mpr (Or.inr y))
theorem gi_LIe {ls : Nat → Int32} {i : Nat} {x : Int32} (h : gi_LI ls i 0 x) : x = ls i := by
  apply b_ext
  intro t ht
  cases hx : bt x t with
  | true => exact (h.1 t ht hx).symm
  | false =>
    cases hy : bt (ls i) t with
    | false => rfl
    | true =>
      rcases h.2.1 t ht hy with z | ⟨j, hj, _⟩
      · exact hx.symm.trans z
      · omega
end
section
/-! what one way adds: the component's sums are the reference's -/
def gi_X2 (o : Nat → Int32) (i j : Nat) : Int32 := 0 + gi_cop o (o (2 * i)) j + gi_cop o (o (2 * i + 1)) j
def gi_X3 (o : Nat → Int32) (i j k : Nat) : Int32 := 0 + gi_cop o (o (2 * i)) j * gi_cop o (o (2 * i)) k + gi_cop o (o (2 * i + 1)) j * gi_cop o (o (2 * i + 1)) k
def gi_X4 (o : Nat → Int32) (i j k l : Nat) : Int32 := 0 + gi_cop o (o (2 * i)) j * gi_cop o (o (2 * i)) k * gi_cop o (o (2 * i)) l + gi_cop o (o (2 * i + 1)) j * gi_cop o (o (2 * i + 1)) k * gi_cop o (o (2 * i + 1)) l
def gi_at (o : Nat → Int32) (i c t : Nat) : Int32 := o (2 * i + c / 2 ^ t % 2)
def gi_f2 (o : Nat → Int32) (i j c : Nat) : Int32 := gi_e (gi_at o i c 0) (gi_at o j c 1)
def gi_f3 (o : Nat → Int32) (i j k c : Nat) : Int32 := gi_e (gi_at o i c 0) (gi_at o j c 1) * gi_e (gi_at o i c 0) (gi_at o k c 2)
def gi_f4 (o : Nat → Int32) (i j k l c : Nat) : Int32 := gi_e (gi_at o i c 0) (gi_at o j c 1) * gi_e (gi_at o i c 0) (gi_at o k c 2) * gi_e (gi_at o i c 0) (gi_at o l c 3)
def gi_fp (o : Nat → Int32) (i j k l c : Nat) : Int32 := gi_e (gi_at o i c 0) (gi_at o j c 1) * gi_e (gi_at o k c 2) (gi_at o l c 3)
theorem gi_r2 (c p q r s : Int32) : c + (0 + (p + q) + (r + s)) = c + p + r + q + s := by grind
theorem gi_r3 (c p0 p1 q0 q1 r0 r1 s0 s1 : Int32) : c + (0 + (p0 + p1) * (q0 + q1) + (r0 + r1) * (s0 + s1)) = c + p0 * q0 + r0 * s0 + p1 * q0 + r1 * s0 + p0 * q1 + r0 * s1 + p1 * q1 + r1 * s1 := by grind
theorem gi_r4 (c p0 p1 q0 q1 t0 t1 r0 r1 s0 s1 u0 u1 : Int32) : c + (0 + (p0 + p1) * (q0 + q1) * (t0 + t1) + (r0 + r1) * (s0 + s1) * (u0 + u1)) = c + p0 * q0 * t0 + r0 * s0 * u0 + p1 * q0 * t0 + r1 * s0 * u0 + p0 * q1 * t0 + r0 * s1 * u0 + p1 * q1 * t0 + r1 * s1 * u0 + p0 * q0 * t1 + r0 * s0 * u1 + p1 * q0 * t1 + r1 * s0 * u1 + p0 * q1 * t1 + r0 * s1 * u1 + p1 * q1 * t1 + r1 * s1 * u1 := by grind
theorem gi_rp (c p q r s a b d e : Int32) : c + (0 + (p + q) + (r + s)) * (0 + (a + b) + (d + e)) = c + p * a + r * a + q * a + s * a + p * d + r * d + q * d + s * d + p * b + r * b + q * b + s * b + p * e + r * e + q * e + s * e := by grind
theorem gi_K2 (o : Nat → Int32) (i j : Nat) (c : Int32) : c + gi_X2 o i j = gi_sm (gi_f2 o i j) 4 0 c := gi_r2 c _ _ _ _
theorem gi_K3 (o : Nat → Int32) (i j k : Nat) (c : Int32) : c + gi_X3 o i j k = gi_sm (gi_f3 o i j k) 8 0 c := gi_r3 c _ _ _ _ _ _ _ _
theorem gi_K4 (o : Nat → Int32) (i j k l : Nat) (c : Int32) : c + gi_X4 o i j k l = gi_sm (gi_f4 o i j k l) 16 0 c := gi_r4 c _ _ _ _ _ _ _ _ _ _ _ _
theorem gi_Kp (o : Nat → Int32) (i j k l : Nat) (c : Int32) : c + gi_X2 o i j * gi_X2 o k l = gi_sm (gi_fp o i j k l) 16 0 c := gi_rp c _ _ _ _ _ _ _ _
/-- related: some of the four are alike -/
abbrev gi_sh (o : Nat → Int32) (i g j : Nat) : Prop := o (2 * i + g) = o (2 * j) ∨ o (2 * i + g) = o (2 * j + 1)
def gi_su (w x y z : Int32) : Int32 := 0 + (gi_e w y + gi_e w z) + (gi_e x y + gi_e x z)
theorem gi_e01 (x y : Int32) : gi_e x y = 0 ∨ gi_e x y = 1 := by
  by_cases h : x = y
  · exact Or.inr (gi_e1 h)
  · exact Or.inl (gi_e0 h)
theorem gi_suI (w x y z : Int32) : gi_su w x y z ≤ 0 ↔ ¬ ((w = y ∨ w = z) ∨ (x = y ∨ x = z)) := by
  unfold gi_su
  by_cases h1 : w = y
  · rw [gi_e1 h1]
    refine ⟨fun h => ?_, fun h => absurd (Or.inl (Or.inl h1)) h⟩
    exfalso; revert h
    rcases gi_e01 w z with e2 | e2 <;> rcases gi_e01 x y with e3 | e3 <;> rcases gi_e01 x z with e4 | e4 <;> rw [e2, e3, e4] <;> decide
  · rw [gi_e0 h1]
    by_cases h2 : w = z
    · rw [gi_e1 h2]
      refine ⟨fun h => ?_, fun h => absurd (Or.inl (Or.inr h2)) h⟩
      exfalso; revert h
      rcases gi_e01 x y with e3 | e3 <;> rcases gi_e01 x z with e4 | e4 <;> rw [e3, e4] <;> decide
    · rw [gi_e0 h2]
      by_cases h3 : x = y
      · rw [gi_e1 h3]
        refine ⟨fun h => ?_, fun h => absurd (Or.inr (Or.inl h3)) h⟩
        exfalso; revert h
        rcases gi_e01 x z with e4 | e4 <;> rw [e4] <;> decide
      · rw [gi_e0 h3]
        by_cases h4 : x = z
        · rw [gi_e1 h4]
          refine ⟨fun h => ?_, fun h => absurd (Or.inr (Or.inr h4)) h⟩
          exact absurd h (by decide)
        · rw [gi_e0 h4]
          refine ⟨fun _ h => ?_, fun _ => by decide⟩
          rcases h with (h | h) | (h | h)
          · exact h1 h
          · exact h2 h
          · exact h3 h
          · exact h4 h
theorem gi_X2s (o : Nat → Int32) (i j : Nat) : gi_X2 o i j = gi_su (o (2 * i)) (o (2 * i + 1)) (o (2 * j)) (o (2 * j + 1)) := rfl
theorem gi_Kr (o : Nat → Int32) (i j : Nat) (c : Int32) : (if gi_X2 o i j ≤ 0 then c else c + 1) = (if gi_sh o i 0 j ∨ gi_sh o i 1 j then c + 1 else c) := by
  have h : gi_X2 o i j ≤ 0 ↔ ¬ (gi_sh o i 0 j ∨ gi_sh o i 1 j) := gi_suI (o (2 * i)) (o (2 * i + 1)) (o (2 * j)) (o (2 * j + 1))
  by_cases z : gi_X2 o i j ≤ 0
  · rw [if_pos z, if_neg (h.mp z)]
  · rw [if_neg z, if_pos]
    exact Classical.byContradiction fun y => z (h.mpr y)
/-- the state of two members -/
def gi_sX (w x y z : Int32) : Int32 :=
  if w = x then (if y = z then (if gi_su w x y z ≤ 0 then 2 else 1) else (if gi_su w x y z ≤ 0 then 4 else 3))
  else if y = z then (if gi_su w x y z ≤ 0 then 6 else 5)
  else 9 - gi_su w x y z
def gi_sY (w x y z : Int32) : Int32 :=
  if w = x then (if y = z then (if w = y ∨ w = z then 1 else 2) else (if w = y ∨ w = z then 3 else 4))
  else if y = z then (if w = y ∨ w = z then 5 else if x = y ∨ x = z then 5 else 6)
  else if w = y ∨ w = z then (if x = y ∨ x = z then 7 else 8) else if x = y ∨ x = z then 8 else 9
theorem gi_s9 {w x y z : Int32} (hw : ¬ w = x) (hy : ¬ y = z) : 9 - gi_su w x y z = (if w = y ∨ w = z then (if x = y ∨ x = z then 7 else 8) else if x = y ∨ x = z then 8 else 9) := by
  unfold gi_su
  by_cases h1 : w = y
  · have h2 : ¬ w = z := fun e => hy (h1.symm.trans e)
    have h3 : ¬ x = y := fun e => hw (h1.trans e.symm)
    rw [gi_e1 h1, gi_e0 h2, gi_e0 h3, if_pos (Or.inl h1)]
    by_cases h4 : x = z
    · rw [gi_e1 h4, if_pos (Or.inr h4)]; decide
    · rw [gi_e0 h4, if_neg (fun e => e.elim h3 h4)]; decide
  · by_cases h2 : w = z
    · have h4 : ¬ x = z := fun e => hw (h2.trans e.symm)
      rw [gi_e0 h1, gi_e1 h2, gi_e0 h4, if_pos (Or.inr h2)]
      by_cases h3 : x = y
      · rw [gi_e1 h3, if_pos (Or.inl h3)]; decide
      · rw [gi_e0 h3, if_neg (fun e => e.elim h3 h4)]; decide
    · rw [gi_e0 h1, gi_e0 h2, if_neg (fun e => e.elim h1 h2)]
      by_cases h3 : x = y
      · have h4 : ¬ x = z := fun e => hy (h3.symm.trans e)
        rw [gi_e1 h3, gi_e0 h4, if_pos (Or.inl h3)]; decide
      · by_cases h4 : x = z
        · rw [gi_e0 h3, gi_e1 h4, if_pos (Or.inr h4)]; decide
        · rw [gi_e0 h3, gi_e0 h4, if_neg (fun e => e.elim h3 h4)]; decide
theorem gi_s2 {w x y z : Int32} {p q : Int32} (h : w = x) : (if gi_su w x y z ≤ 0 then p else q) = (if w = y ∨ w = z then q else p) := by
  have hh := gi_suI w x y z
  by_cases e : gi_su w x y z ≤ 0
  · rw [if_pos e, if_neg (fun k => hh.mp e (Or.inl k))]
  · rw [if_neg e, if_pos]
    apply Classical.byContradiction
    intro k
    refine e (hh.mpr (fun t => ?_))
    rcases t with t | t
    · exact k t
    · rw [← h] at t; exact k t
theorem gi_s5 {w x y z : Int32} {p q : Int32} : (if gi_su w x y z ≤ 0 then p else q) = (if w = y ∨ w = z then q else if x = y ∨ x = z then q else p) := by
  have hh := gi_suI w x y z
  by_cases k1 : w = y ∨ w = z
  · rw [if_pos k1, if_neg (fun e => hh.mp e (Or.inl k1))]
  · rw [if_neg k1]
    by_cases k2 : x = y ∨ x = z
    · rw [if_pos k2, if_neg (fun e => hh.mp e (Or.inr k2))]
    · rw [if_neg k2, if_pos (hh.mpr (fun t => t.elim k1 k2))]
theorem gi_sXY (w x y z : Int32) : gi_sX w x y z = gi_sY w x y z := by
  unfold gi_sX gi_sY
  by_cases h1 : w = x
  · rw [if_pos h1, if_pos h1]
    by_cases h5 : y = z
    · rw [if_pos h5, if_pos h5, gi_s2 h1]
    · rw [if_neg h5, if_neg h5, gi_s2 h1]
  · rw [if_neg h1, if_neg h1]
    by_cases h5 : y = z
    · rw [if_pos h5, if_pos h5, gi_s5]
    · rw [if_neg h5, if_neg h5, gi_s9 h1 h5]
/-- from: a gene comes from one of the founder's two -/
theorem gi_frN : ∀ g, g < 14 → ∀ f, f < 7 → gi_e (nI (2 * f)) (nI g) + gi_e (nI (2 * f + 1)) (nI g) = gi_e (nI g / 2) (nI f) := by decide +kernel
def gi_ff (o : Nat → Int32) (i f g : Nat) : Int32 := gi_e (o (2 * i + g) / 2) (nI f)
theorem gi_Kf {o : Nat → Int32} {i f : Nat} (hf : f < 7) (h0 : ∃ g : Nat, g < 14 ∧ o (2 * i) = nI g) (h1 : ∃ g : Nat, g < 14 ∧ o (2 * i + 1) = nI g) (c : Int32) : c + (gi_cop o (nI (2 * f)) i + gi_cop o (nI (2 * f + 1)) i) = gi_sm (gi_ff o i f) 2 0 c := by
  obtain ⟨g0, z0, e0⟩ := h0
  obtain ⟨g1, z1, e1⟩ := h1
  show c + ((gi_e (nI (2 * f)) (o (2 * i)) + gi_e (nI (2 * f)) (o (2 * i + 1))) + (gi_e (nI (2 * f + 1)) (o (2 * i)) + gi_e (nI (2 * f + 1)) (o (2 * i + 1)))) = c + gi_e (o (2 * i) / 2) (nI f) + gi_e (o (2 * i + 1) / 2) (nI f)
  rw [e0, e1, ← gi_frN g0 z0 f hf, ← gi_frN g1 z1 f hf]
  generalize gi_e (nI (2 * f)) (nI g0) = a1
  generalize gi_e (nI (2 * f)) (nI g1) = a2
  generalize gi_e (nI (2 * f + 1)) (nI g0) = a3
  generalize gi_e (nI (2 * f + 1)) (nI g1) = a4
  grind
end
section
/-! numbers as they are printed, and the component's own methods -/
theorem gi_n10 : ¬ (1 : Int32) = 0 := by decide
theorem gi_2 (i : Nat) : 2 * nI i = nI (2 * i) := pk_mul 2 i
theorem gi_21 (i : Nat) : 2 * nI i + 1 = nI (2 * i + 1) := by rw [gi_2, nI_1]
theorem gi_2r (i r : Nat) : 2 * nI i + nI r = nI (2 * i + r) := by rw [gi_2, nI_add]
theorem gi_c2 {i : Nat} (h : i < 7) : (2 * nI i).toNatClampNeg = 2 * i := by rw [gi_2, nI_clamp (by omega)]
theorem gi_c3 {i : Nat} (h : i < 7) : (2 * nI i + 1).toNatClampNeg = 2 * i + 1 := by rw [gi_21, nI_clamp (by omega)]
theorem gi_i2 {i : Nat} (h : i < 7) : vp_in (2 * nI i) 14 := by rw [gi_2]; exact vp_in_nI (by omega) (by omega)
theorem gi_i3 {i : Nat} (h : i < 7) : vp_in (2 * nI i + 1) 14 := by rw [gi_21]; exact vp_in_nI (by omega) (by omega)
theorem gi_a1 {r : Nat} (h : r < 2 ^ 31) : nI r &&& 1 = nI (r % 2) := pk_andN (by omega) 1 (by decide)
theorem gi_sr1 {r : Nat} (h : r < 2 ^ 31) : nI r >>> ((1 : Int32) &&& 31) = nI (r / 2) := pk_shrN h _ 1 (by decide)
theorem gi_sr2 {r : Nat} (h : r < 2 ^ 31) : nI r >>> ((2 : Int32) &&& 31) = nI (r / 4) := pk_shrN h _ 2 (by decide)
theorem gi_d2 {r : Nat} (h : r < 2 ^ 31) : nI r / 2 = nI (r / 2) := pk_div h (by decide) (by decide)
theorem gi_d4 {r : Nat} (h : r < 2 ^ 31) : nI r / 4 = nI (r / 4) := pk_div h (by decide) (by decide)
theorem gi_md2 {r : Nat} (h : r < 2 ^ 31) : nI r - nI r / 2 * 2 = nI (r % 2) := pk_rem h (by decide) (by decide)
def gi_mem (x : Int32) (n : Nat) : Prop := ∃ j : Nat, j < n ∧ x = nI j
def gi_T (a : Nat → Int32) (n : Nat) : Nat := 4 ^ gi_cc a n
theorem gi_Tle {a b : Nat → Int32} {n : Nat} (hn : n ≤ 7) (hP : ∀ i, i < n → gi_P a b i) : gi_T a n ≤ 4096 := gi_4096 _ (Nat.lt_succ_of_le (gi_cc_6 hn hP))
theorem gi_Teq {a b : Nat → Int32} {n : Nat} (hn : n ≤ 7) (hP : ∀ i, i < n → gi_P a b i) : (1 : Int32) <<< ((2 * nI (gi_cc a n)) &&& 31) = nI (gi_T a n) := gi_ways _ (Nat.lt_succ_of_le (gi_cc_6 hn hP))
section
variable {n : Nat} {fc : Int32} {a b ls o : Nat → Int32}
theorem gi_xM1 {post : Int32 → Prop} {j : Nat} (hn : n ≤ 7) (hj : j < n) (hp : post 1) : wpX_isMember post (nI n, fc, a, b, ls, o) (nI j) := by
  show (_ → _) ∧ (_ → _)
  exact br_f (nI_pos (by omega)) (br_f (nI_ge hj (by omega)) hp)
theorem gi_xM0 {post : Int32 → Prop} {x : Int32} (hn : n ≤ 7) (h : ¬ gi_mem x n) (hp : post 0) : wpX_isMember post (nI n, fc, a, b, ls, o) x := by
  show (_ → _) ∧ (_ → _)
  rcases pk_ix x (n := n) (by omega) with h1 | h1 | h1
  · exact br_t h1 hp
  · by_cases h0 : x < 0
    · exact br_t h0 hp
    · exact br_f h0 (br_t h1 hp)
  · exact absurd h1 h
theorem gi_xF1 {post : Int32 → Prop} {j : Nat} (hj : j < 7) (h : a j = -1) (hp : post 1) : wpX_isFounder post (nI n, fc, a, b, ls, o) (nI j) := by
  show _ ∧ _
  exact ⟨vp_in_nI hj (by omega), br_t (by rw [nI_clamp (by omega)]; exact h) hp⟩
theorem gi_xF0 {post : Int32 → Prop} {j : Nat} (hj : j < 7) (h : ¬ a j = -1) (hp : post 0) : wpX_isFounder post (nI n, fc, a, b, ls, o) (nI j) := by
  show _ ∧ _
  exact ⟨vp_in_nI hj (by omega), br_f (by rw [nI_clamp (by omega)]; exact h) hp⟩
theorem gi_xW {post : Int32 → Prop} (hn : n ≤ 7) (hP : ∀ i, i < n → gi_P a b i) (hp : post (nI (gi_T a n))) : wpX_ways post (nI n, nI (gi_cc a n), a, b, ls, o) := by
  show post ((1 : Int32) <<< ((2 * nI (gi_cc a n)) &&& 31))
  rw [gi_Teq hn hP]
  exact hp
theorem gi_xL4 {post : SX → Prop} (hn : n ≤ 7) (hP : ∀ i, i < n → gi_P a b i) : ∀ d i r : Nat, ∀ o : Nat → Int32, i + d = n → r < 2 ^ 31 → post (nI n, fc, a, b, ls, gi_lay a b d i r o) → wX_layOut_4 post (nI n) fc (d + 1) (nI r) (nI i) a b ls o := by
  intro d
  induction d with
  | zero =>
    intro i r o hi hr hp
    have h : nI n ≤ nI i := nI_le (by omega) (by omega)
    exact br_t h hp
  | succ d ih =>
    intro i r o hi hr hp
    have h : ¬ nI n ≤ nI i := nI_ge (by omega) (by omega)
    have h7 : i < 7 := by omega
    have hc : (nI i).toNatClampNeg = i := nI_clamp (by omega)
    have hin : vp_in (nI i) 7 := vp_in_nI h7 (by omega)
    refine br_f h ?_
    rcases hP i (by omega) with hf | ⟨p, q, hpi, hqi, ha, hb⟩
    · rw [gi_layF hf] at hp
      refine gi_xF1 h7 hf (br_f gi_n10 ⟨gi_i2 h7, nm_r (e' := upd o (2 * i) (nI (2 * i))) (by rw [gi_c2 h7, gi_2]) ⟨gi_i3 h7, nm_r (e' := upd (upd o (2 * i) (nI (2 * i))) (2 * i + 1) (nI (2 * i + 1))) (by rw [gi_c3 h7, gi_21]) (nm_r (nI_1 i) ?_)⟩⟩)
      exact ih (i + 1) r _ (by omega) hr hp
    · rw [gi_layC (by omega) (by omega) ha hb] at hp
      have hf : ¬ a i = -1 := by rw [ha]; exact gi_m1 (by omega)
      have ea : 2 * a (nI i).toNatClampNeg + (nI r &&& 1) = nI (2 * p + r % 2) := by rw [hc, ha, gi_a1 hr, gi_2r]
      have eb : 2 * b (nI i).toNatClampNeg + ((nI r >>> ((1 : Int32) &&& 31)) &&& 1) = nI (2 * q + r / 2 % 2) := by rw [hc, hb, gi_sr1 hr, gi_a1 (by omega), gi_2r]
      refine gi_xF0 h7 hf (br_t rfl ⟨hin, pk_in (2 * p + r % 2) 14 (by omega) ea, gi_i2 h7, nm_r (e' := upd o (2 * i) (o (2 * p + r % 2))) (by rw [gi_c2 h7, ea, nI_clamp (by omega)]) ⟨hin, pk_in (2 * q + r / 2 % 2) 14 (by omega) eb, gi_i3 h7, nm_r (e' := upd (upd o (2 * i) (o (2 * p + r % 2))) (2 * i + 1) (upd o (2 * i) (o (2 * p + r % 2)) (2 * q + r / 2 % 2))) (by rw [gi_c3 h7, eb, nI_clamp (by omega)]) (nm_r (gi_sr2 hr) (nm_r (nI_1 i) ?_))⟩⟩)
      exact ih (i + 1) (r / 4) _ (by omega) (by omega) hp
theorem gi_xL {post : SX → Prop} {w : Nat} (hn : n ≤ 7) (hP : ∀ i, i < n → gi_P a b i) (hw : w < 2 ^ 31) (hp : post (nI n, fc, a, b, ls, gi_lay a b n 0 w o)) : wpX_layOut post (nI n, fc, a, b, ls, o) (nI w) := by
  show ∃ n4 : Nat, wX_layOut_4 post (nI n) fc n4 (nI w) 0 a b ls o
  exact ⟨n + 1, gi_xL4 hn hP n 0 w o (by omega) hw hp⟩
theorem gi_xO1 {post : Int32 → Prop} {i : Nat} (hi : i < 7) (h : o (2 * i) = o (2 * i + 1)) (hp : post 1) : wpX_ownAlike post (nI n, fc, a, b, ls, o) (nI i) := by
  show _ ∧ _
  exact ⟨gi_i2 hi, gi_i3 hi, br_t (by rw [gi_c2 hi, gi_c3 hi]; exact h) hp⟩
theorem gi_xO0 {post : Int32 → Prop} {i : Nat} (hi : i < 7) (h : ¬ o (2 * i) = o (2 * i + 1)) (hp : post 0) : wpX_ownAlike post (nI n, fc, a, b, ls, o) (nI i) := by
  show _ ∧ _
  exact ⟨gi_i2 hi, gi_i3 hi, br_f (by rw [gi_c2 hi, gi_c3 hi]; exact h) hp⟩
theorem gi_xC {post : Int32 → Prop} {g : Int32} {j : Nat} (hj : j < 7) (hp : post (gi_cop o g j)) : wpX_copiesOf post (nI n, fc, a, b, ls, o) g (nI j) := by
  show _ ∧ _
  refine ⟨gi_i2 hj, ?_⟩
  rw [gi_c2 hj]
  by_cases h1 : o (2 * j) = g
  · refine br_t h1 (nm_r (show (0 : Int32) + 1 = 1 by decide) ?_)
    show _ ∧ _
    refine ⟨gi_i3 hj, ?_⟩
    rw [gi_c3 hj]
    by_cases h2 : o (2 * j + 1) = g
    · have e : gi_cop o g j = 1 + 1 := by unfold gi_cop; rw [gi_e1 h1.symm, gi_e1 h2.symm]
      rw [e] at hp
      exact br_t h2 (nm_e hp)
    · have e : gi_cop o g j = 1 := by unfold gi_cop; rw [gi_e1 h1.symm, gi_e0 (fun z => h2 z.symm)]; decide
      rw [e] at hp
      exact br_f h2 hp
  · refine br_f h1 ?_
    show _ ∧ _
    refine ⟨gi_i3 hj, ?_⟩
    rw [gi_c3 hj]
    by_cases h2 : o (2 * j + 1) = g
    · have e : gi_cop o g j = 0 + 1 := by unfold gi_cop; rw [gi_e0 (fun z => h1 z.symm), gi_e1 h2.symm]
      rw [e] at hp
      exact br_t h2 (nm_e hp)
    · have e : gi_cop o g j = 0 := by unfold gi_cop; rw [gi_e0 (fun z => h1 z.symm), gi_e0 (fun z => h2 z.symm)]; decide
      rw [e] at hp
      exact br_f h2 hp
theorem gi_20 (i : Nat) : 2 * nI i + 0 = nI (2 * i) := by rw [gi_2, Int32.add_zero]
theorem gi_i20 {i : Nat} (h : i < 7) : vp_in (2 * nI i + 0) 14 := by rw [gi_20]; exact vp_in_nI (by omega) (by omega)
theorem gi_o20 {i : Nat} (h : i < 7) : o (2 * nI i + 0).toNatClampNeg = o (2 * i) := by rw [gi_20, nI_clamp (by omega)]
theorem gi_o21 {i : Nat} (h : i < 7) : o (2 * nI i + 1).toNatClampNeg = o (2 * i + 1) := by rw [gi_c3 h]
theorem gi_01 : (0 : Int32) + 1 = 1 := by decide
theorem gi_12 : (1 : Int32) + 1 = 2 := by decide
theorem gi_l0 : ¬ (2 : Int32) ≤ 0 := by decide
theorem gi_l1 : ¬ (2 : Int32) ≤ 1 := by decide
theorem gi_l2 : (2 : Int32) ≤ 2 := by decide
theorem gi_x2 {post : Int32 → Prop} {i j : Nat} (hi : i < 7) (hj : j < 7) (hp : post (gi_X2 o i j)) : wpX_alikeTwos post (nI n, fc, a, b, ls, o) (nI i) (nI j) := by
  show ∃ n5 : Nat, wX_alikeTwos_5 post (nI i) (nI j) (nI n) fc a b ls o n5 0 0
  exact ⟨3, br_f gi_l0 ⟨gi_i20 hi, nm_r (gi_o20 hi) (gi_xC hj (nm_e (nm_r gi_01 (br_f gi_l1 ⟨gi_i3 hi, nm_r (gi_o21 hi) (gi_xC hj (nm_e (nm_r gi_12 (br_t gi_l2 hp))))⟩))))⟩⟩
theorem gi_x3 {post : Int32 → Prop} {i j k : Nat} (hi : i < 7) (hj : j < 7) (hk : k < 7) (hp : post (gi_X3 o i j k)) : wpX_alikeThrees post (nI n, fc, a, b, ls, o) (nI i) (nI j) (nI k) := by
  show ∃ n6 : Nat, wX_alikeThrees_6 post (nI i) (nI j) (nI k) (nI n) fc a b ls o n6 0 0
  exact ⟨3, br_f gi_l0 ⟨gi_i20 hi, nm_r (gi_o20 hi) (gi_xC hj (gi_xC hk (nm_e (nm_r gi_01 (br_f gi_l1 ⟨gi_i3 hi, nm_r (gi_o21 hi) (gi_xC hj (gi_xC hk (nm_e (nm_r gi_12 (br_t gi_l2 hp)))))⟩)))))⟩⟩
theorem gi_x4 {post : Int32 → Prop} {i j k l : Nat} (hi : i < 7) (hj : j < 7) (hk : k < 7) (hl : l < 7) (hp : post (gi_X4 o i j k l)) : wpX_alikeFours post (nI n, fc, a, b, ls, o) (nI i) (nI j) (nI k) (nI l) := by
  show ∃ n6 : Nat, wX_alikeFours_6 post (nI i) (nI j) (nI k) (nI l) (nI n) fc a b ls o n6 0 0
  exact ⟨3, br_f gi_l0 ⟨gi_i20 hi, nm_r (gi_o20 hi) (gi_xC hj (gi_xC hk (gi_xC hl (nm_e (nm_r gi_01 (br_f gi_l1 ⟨gi_i3 hi, nm_r (gi_o21 hi) (gi_xC hj (gi_xC hk (gi_xC hl (nm_e (nm_r gi_12 (br_t gi_l2 hp))))))⟩))))))⟩⟩
theorem gi_xS {post : Int32 → Prop} {i j : Nat} (hi : i < 7) (hj : j < 7) (hp : post (gi_sX (o (2 * i)) (o (2 * i + 1)) (o (2 * j)) (o (2 * j + 1)))) : wpX_stateNow post (nI n, fc, a, b, ls, o) (nI i) (nI j) := by
  unfold wpX_stateNow
  dsimp only
  refine gi_x2 hi hj ?_
  rw [gi_X2s]
  unfold gi_sX at hp
  by_cases h1 : o (2 * i) = o (2 * i + 1)
  · rw [if_pos h1] at hp
    refine gi_xO1 hi h1 ?_
    by_cases h2 : o (2 * j) = o (2 * j + 1)
    · rw [if_pos h2] at hp
      refine gi_xO1 hj h2 (br_f gi_n10 (br_f gi_n10 ?_))
      by_cases h3 : gi_su (o (2 * i)) (o (2 * i + 1)) (o (2 * j)) (o (2 * j + 1)) ≤ 0
      · rw [if_pos h3] at hp; exact br_t h3 hp
      · rw [if_neg h3] at hp; exact br_f h3 hp
    · rw [if_neg h2] at hp
      refine gi_xO0 hj h2 (br_f gi_n10 (br_t rfl (br_f gi_n10 ?_)))
      by_cases h3 : gi_su (o (2 * i)) (o (2 * i + 1)) (o (2 * j)) (o (2 * j + 1)) ≤ 0
      · rw [if_pos h3] at hp; exact br_t h3 hp
      · rw [if_neg h3] at hp; exact br_f h3 hp
  · rw [if_neg h1] at hp
    refine gi_xO0 hi h1 ?_
    by_cases h2 : o (2 * j) = o (2 * j + 1)
    · rw [if_pos h2] at hp
      refine gi_xO1 hj h2 (br_t rfl (br_t rfl (br_f gi_n10 ?_)))
      by_cases h3 : gi_su (o (2 * i)) (o (2 * i + 1)) (o (2 * j)) (o (2 * j + 1)) ≤ 0
      · rw [if_pos h3] at hp; exact br_t h3 hp
      · rw [if_neg h3] at hp; exact br_f h3 hp
    · rw [if_neg h2] at hp
      exact gi_xO0 hj h2 (br_t rfl (br_t rfl (br_t rfl hp)))
end
end
section
/-! the reference's own methods -/
theorem gi_n20 : ¬ (2 : Int32) = 0 := by decide
theorem gi_n40 : ¬ (4 : Int32) = 0 := by decide
section
variable {n : Nat} {a b o : Nat → Int32}
theorem gi_yM1 {post : Int32 → Prop} {j : Nat} (hn : n ≤ 7) (hj : j < n) (hp : post 1) : wpY_is post (nI n, a, b, o) (nI j) := by
  show (_ → _) ∧ (_ → _)
  exact br_f (nI_pos (by omega)) (br_f (nI_ge hj (by omega)) hp)
theorem gi_yM0 {post : Int32 → Prop} {x : Int32} (hn : n ≤ 7) (h : ¬ gi_mem x n) (hp : post 0) : wpY_is post (nI n, a, b, o) x := by
  show (_ → _) ∧ (_ → _)
  rcases pk_ix x (n := n) (by omega) with h1 | h1 | h1
  · exact br_t h1 hp
  · by_cases h0 : x < 0
    · exact br_t h0 hp
    · exact br_f h0 (br_t h1 hp)
  · exact absurd h1 h
theorem gi_yK4 {post : Int32 → Prop} (hn : n ≤ 7) (hP : ∀ i, i < n → gi_P a b i) (hp : post (nI (gi_cc a n))) : ∀ d i : Nat, i + d = n → wY_children_4 post (nI n) a b o (d + 1) (nI (gi_cc a i)) (nI i) := by
  intro d
  induction d with
  | zero =>
    intro i hi
    have e : i = n := by omega
    rw [e]
    exact br_t (nI_le (Nat.le_refl n) (by omega)) hp
  | succ d ih =>
    intro i hi
    have h : ¬ nI n ≤ nI i := nI_ge (by omega) (by omega)
    have hc : (nI i).toNatClampNeg = i := nI_clamp (by omega)
    have hin : vp_in (nI i) 7 := vp_in_nI (by omega) (by omega)
    have k := ih (i + 1) (by omega)
    refine br_f h ⟨hin, ?_⟩
    rw [hc]
    rcases hP i (by omega) with hf | ⟨p, q, hpi, hqi, ha, hb⟩
    · rw [gi_ccF hf] at k
      exact br_t (by rw [hf]; decide) (nm_r (nI_1 i) k)
    · rw [gi_ccC (by rw [ha]; exact gi_m1 (by omega))] at k
      exact br_f (by rw [ha]; exact nI_pos (by omega)) (nm_r (nI_1 _) (nm_r (nI_1 i) k))
theorem gi_yK {post : Int32 → Prop} (hn : n ≤ 7) (hP : ∀ i, i < n → gi_P a b i) (hp : post (nI (gi_cc a n))) : wpY_children post (nI n, a, b, o) := by
  show ∃ n4 : Nat, wY_children_4 post (nI n) a b o n4 0 0
  exact ⟨n + 1, gi_yK4 hn hP hp n 0 (by omega)⟩
theorem gi_yW {post : Int32 → Prop} (hn : n ≤ 7) (hP : ∀ i, i < n → gi_P a b i) (hp : post (nI (gi_T a n))) : wpY_ways post (nI n, a, b, o) := by
  unfold wpY_ways
  dsimp only
  refine gi_yK hn hP ?_
  rw [gi_Teq hn hP]
  exact hp
theorem gi_yL4 {post : SY → Prop} (hn : n ≤ 7) (hP : ∀ i, i < n → gi_P a b i) : ∀ d i r : Nat, ∀ o : Nat → Int32, i + d = n → r < 2 ^ 31 → post (nI n, a, b, gi_lay a b d i r o) → wY_follow_4 post (nI n) (d + 1) (nI r) (nI i) a b o := by
  intro d
  induction d with
  | zero =>
    intro i r o hi hr hp
    have h : nI n ≤ nI i := nI_le (by omega) (by omega)
    exact br_t h hp
  | succ d ih =>
    intro i r o hi hr hp
    have h : ¬ nI n ≤ nI i := nI_ge (by omega) (by omega)
    have h7 : i < 7 := by omega
    have hc : (nI i).toNatClampNeg = i := nI_clamp (by omega)
    have hin : vp_in (nI i) 7 := vp_in_nI h7 (by omega)
    refine br_f h ⟨hin, ?_⟩
    rcases hP i (by omega) with hf | ⟨p, q, hpi, hqi, ha, hb⟩
    · rw [gi_layF hf] at hp
      refine br_f (by rw [hc, hf]; decide) ⟨gi_i2 h7, nm_r (e' := upd o (2 * i) (nI (2 * i))) (by rw [gi_c2 h7, gi_2]) ⟨gi_i3 h7, nm_r (e' := upd (upd o (2 * i) (nI (2 * i))) (2 * i + 1) (nI (2 * i + 1))) (by rw [gi_c3 h7, gi_21]) (nm_r (nI_1 i) ?_)⟩⟩
      exact ih (i + 1) r _ (by omega) hr hp
    · rw [gi_layC (by omega) (by omega) ha hb] at hp
      have ea : 2 * a (nI i).toNatClampNeg + (nI r - nI r / 2 * 2) = nI (2 * p + r % 2) := by rw [hc, ha, gi_md2 hr, gi_2r]
      have eb : 2 * b (nI i).toNatClampNeg + ((nI r / 2) - (nI r / 2) / 2 * 2) = nI (2 * q + r / 2 % 2) := by rw [hc, hb, gi_d2 hr, gi_md2 (by omega), gi_2r]
      refine br_t (by rw [hc, ha]; exact nI_pos' (by omega)) ⟨hin, gi_n20, pk_in (2 * p + r % 2) 14 (by omega) ea, gi_i2 h7, nm_r (e' := upd o (2 * i) (o (2 * p + r % 2))) (by rw [gi_c2 h7, ea, nI_clamp (by omega)]) ⟨hin, gi_n20, gi_n20, pk_in (2 * q + r / 2 % 2) 14 (by omega) eb, gi_i3 h7, nm_r (e' := upd (upd o (2 * i) (o (2 * p + r % 2))) (2 * i + 1) (upd o (2 * i) (o (2 * p + r % 2)) (2 * q + r / 2 % 2))) (by rw [gi_c3 h7, eb, nI_clamp (by omega)]) ⟨gi_n40, nm_r (gi_d4 hr) (nm_r (nI_1 i) ?_)⟩⟩⟩
      exact ih (i + 1) (r / 4) _ (by omega) (by omega) hp
theorem gi_yL {post : SY → Prop} {w : Nat} (hn : n ≤ 7) (hP : ∀ i, i < n → gi_P a b i) (hw : w < 2 ^ 31) (hp : post (nI n, a, b, gi_lay a b n 0 w o)) : wpY_follow post (nI n, a, b, o) (nI w) := by
  show ∃ n4 : Nat, wY_follow_4 post (nI n) n4 (nI w) 0 a b o
  exact ⟨n + 1, gi_yL4 hn hP n 0 w o (by omega) hw hp⟩
theorem gi_yg {i c t : Nat} (hc : c < 16) (ht : t < 4) : 2 * nI i + ((nI c >>> (nI t &&& 31)) &&& 1) = nI (2 * i + c / 2 ^ t % 2) := by
  have h : c / 2 ^ t ≤ c := Nat.div_le_self _ _
  rw [pk_shrN (by omega) _ t (s_l t (by omega)), gi_a1 (by omega), gi_2r]
theorem gi_yG {post : Int32 → Prop} {i c : Nat} (t : Nat) (hi : i < 7) (hc : c < 16) (ht : t < 4) (hp : post (gi_at o i c t)) : wpY_gene post (nI n, a, b, o) (nI i) (nI c) (nI t) := by
  show _ ∧ _
  rw [gi_yg hc ht, nI_clamp (by omega)]
  exact ⟨vp_in_nI (by omega) (by omega), hp⟩
theorem gi_yH {post : Int32 → Prop} {i j : Nat} (g : Nat) (hi : i < 7) (hj : j < 7) (hg : g < 2) (h : gi_sh o i g j) (hp : post 1) : wpY_shares post (nI n, a, b, o) (nI i) (nI g) (nI j) := by
  show _ ∧ _
  have i1 : vp_in (nI (2 * i + g)) 14 := vp_in_nI (by omega) (by omega)
  rw [gi_2r, gi_c2 hj, gi_c3 hj, nI_clamp (by omega)]
  refine ⟨i1, gi_i2 hj, ?_⟩
  by_cases z : o (2 * i + g) = o (2 * j)
  · exact br_t z hp
  · rcases h with h | h
    · exact absurd h z
    · exact br_f z ⟨i1, gi_i3 hj, br_t h hp⟩
theorem gi_yH0 {post : Int32 → Prop} {i j : Nat} (g : Nat) (hi : i < 7) (hj : j < 7) (hg : g < 2) (h : ¬ gi_sh o i g j) (hp : post 0) : wpY_shares post (nI n, a, b, o) (nI i) (nI g) (nI j) := by
  show _ ∧ _
  have i1 : vp_in (nI (2 * i + g)) 14 := vp_in_nI (by omega) (by omega)
  rw [gi_2r, gi_c2 hj, gi_c3 hj, nI_clamp (by omega)]
  exact ⟨i1, gi_i2 hj, br_f (fun z => h (Or.inl z)) ⟨i1, gi_i3 hj, br_f (fun z => h (Or.inr z)) hp⟩⟩
theorem gi_yS {post : Int32 → Prop} {i j : Nat} (hi : i < 7) (hj : j < 7) (hp : post (gi_sY (o (2 * i)) (o (2 * i + 1)) (o (2 * j)) (o (2 * j + 1)))) : wpY_stateOf post (nI n, a, b, o) (nI i) (nI j) := by
  unfold gi_sY at hp
  show _ ∧ _
  refine ⟨gi_i2 hi, gi_i3 hi, ?_⟩
  rw [gi_c2 hi, gi_c3 hi]
  by_cases h1 : o (2 * i) = o (2 * i + 1)
  · rw [if_pos h1] at hp
    refine br_t h1 ?_
    show _ ∧ _
    refine ⟨gi_i2 hj, gi_i3 hj, ?_⟩
    rw [gi_c2 hj, gi_c3 hj]
    by_cases h2 : o (2 * j) = o (2 * j + 1)
    · rw [if_pos h2] at hp
      refine br_t h2 ?_
      unfold wY_stateOf_53
      by_cases h3 : o (2 * i) = o (2 * j) ∨ o (2 * i) = o (2 * j + 1)
      · rw [if_pos h3] at hp
        refine gi_yH 0 hi hj (by omega) h3 ?_
        by_cases h4 : o (2 * i + 1) = o (2 * j) ∨ o (2 * i + 1) = o (2 * j + 1)
        · exact gi_yH 1 hi hj (by omega) h4 (br_f gi_n10 (br_f gi_n10 (br_f gi_n10 hp)))
        · exact gi_yH0 1 hi hj (by omega) h4 (br_f gi_n10 (br_f gi_n10 (br_f gi_n10 hp)))
      · rw [if_neg h3] at hp
        refine gi_yH0 0 hi hj (by omega) h3 ?_
        by_cases h4 : o (2 * i + 1) = o (2 * j) ∨ o (2 * i + 1) = o (2 * j + 1)
        · exact gi_yH 1 hi hj (by omega) h4 (br_f gi_n10 (br_f gi_n10 (br_t rfl hp)))
        · exact gi_yH0 1 hi hj (by omega) h4 (br_f gi_n10 (br_f gi_n10 (br_t rfl hp)))
    · rw [if_neg h2] at hp
      refine br_f h2 ?_
      unfold wY_stateOf_53
      by_cases h3 : o (2 * i) = o (2 * j) ∨ o (2 * i) = o (2 * j + 1)
      · rw [if_pos h3] at hp
        refine gi_yH 0 hi hj (by omega) h3 ?_
        by_cases h4 : o (2 * i + 1) = o (2 * j) ∨ o (2 * i + 1) = o (2 * j + 1)
        · exact gi_yH 1 hi hj (by omega) h4 (br_f gi_n10 (br_t rfl (br_f gi_n10 (br_f gi_n10 hp))))
        · exact gi_yH0 1 hi hj (by omega) h4 (br_f gi_n10 (br_t rfl (br_f gi_n10 (br_f gi_n10 hp))))
      · rw [if_neg h3] at hp
        refine gi_yH0 0 hi hj (by omega) h3 ?_
        by_cases h4 : o (2 * i + 1) = o (2 * j) ∨ o (2 * i + 1) = o (2 * j + 1)
        · exact gi_yH 1 hi hj (by omega) h4 (br_f gi_n10 (br_t rfl (br_f gi_n10 (br_t rfl hp))))
        · exact gi_yH0 1 hi hj (by omega) h4 (br_f gi_n10 (br_t rfl (br_f gi_n10 (br_t rfl hp))))
  · rw [if_neg h1] at hp
    refine br_f h1 ?_
    show _ ∧ _
    refine ⟨gi_i2 hj, gi_i3 hj, ?_⟩
    rw [gi_c2 hj, gi_c3 hj]
    by_cases h2 : o (2 * j) = o (2 * j + 1)
    · rw [if_pos h2] at hp
      refine br_t h2 ?_
      unfold wY_stateOf_53
      by_cases h3 : o (2 * i) = o (2 * j) ∨ o (2 * i) = o (2 * j + 1)
      · rw [if_pos h3] at hp
        refine gi_yH 0 hi hj (by omega) h3 ?_
        by_cases h4 : o (2 * i + 1) = o (2 * j) ∨ o (2 * i + 1) = o (2 * j + 1)
        · exact gi_yH 1 hi hj (by omega) h4 (br_t rfl (br_t rfl (br_f gi_n10 (br_f gi_n10 hp))))
        · exact gi_yH0 1 hi hj (by omega) h4 (br_t rfl (br_t rfl (br_f gi_n10 (br_f gi_n10 hp))))
      · rw [if_neg h3] at hp
        refine gi_yH0 0 hi hj (by omega) h3 ?_
        by_cases h4 : o (2 * i + 1) = o (2 * j) ∨ o (2 * i + 1) = o (2 * j + 1)
        · rw [if_pos h4] at hp; exact gi_yH 1 hi hj (by omega) h4 (br_t rfl (br_t rfl (br_f gi_n10 (br_t rfl (br_f gi_n10 hp)))))
        · rw [if_neg h4] at hp; exact gi_yH0 1 hi hj (by omega) h4 (br_t rfl (br_t rfl (br_f gi_n10 (br_t rfl (br_t rfl hp)))))
    · rw [if_neg h2] at hp
      refine br_f h2 ?_
      unfold wY_stateOf_53
      by_cases h3 : o (2 * i) = o (2 * j) ∨ o (2 * i) = o (2 * j + 1)
      · rw [if_pos h3] at hp
        refine gi_yH 0 hi hj (by omega) h3 ?_
        by_cases h4 : o (2 * i + 1) = o (2 * j) ∨ o (2 * i + 1) = o (2 * j + 1)
        · rw [if_pos h4] at hp; exact gi_yH 1 hi hj (by omega) h4 (br_t rfl (br_t rfl (br_t rfl (br_f gi_n10 (br_f gi_n10 hp)))))
        · rw [if_neg h4] at hp; exact gi_yH0 1 hi hj (by omega) h4 (br_t rfl (br_t rfl (br_t rfl (br_f gi_n10 (br_t rfl (br_f gi_n10 hp))))))
      · rw [if_neg h3] at hp
        refine gi_yH0 0 hi hj (by omega) h3 ?_
        by_cases h4 : o (2 * i + 1) = o (2 * j) ∨ o (2 * i + 1) = o (2 * j + 1)
        · rw [if_pos h4] at hp; exact gi_yH 1 hi hj (by omega) h4 (br_t rfl (br_t rfl (br_t rfl (br_t rfl (br_t rfl (br_f gi_n10 hp))))))
        · rw [if_neg h4] at hp; exact gi_yH0 1 hi hj (by omega) h4 (br_t rfl (br_t rfl (br_t rfl (br_t rfl (br_t rfl (br_t rfl hp))))))
end
end
section
/-! the counts: each side's run over the ways -/
theorem gi_loop (W : Nat → Int32 → Int32 → (Nat → Int32) → Prop) (post : Int32 → (Nat → Int32) → Prop) (L : Nat → (Nat → Int32) → Nat → Int32) (K : (Nat → Int32) → Int32 → Int32) (T : Nat) (hx : ∀ m c o, post c o → W (m + 1) c (nI T) o) (hs : ∀ m c w o, w < T → W m (K (L w o) c) (nI (w + 1)) (L w o) → W (m + 1) c (nI w) o) : ∀ d w c o, w + d = T → post (gi_run L K d w c o).1 (gi_run L K d w c o).2 → W (d + 1) c (nI w) o := by
  intro d
  induction d with
  | zero =>
    intro w c o hw hp
    have e : w = T := by omega
    rw [e]
    exact hx 0 c o hp
  | succ d ih =>
    intro w c o hw hp
    exact hs (d + 1) c w o (by omega) (ih (w + 1) _ _ (by omega) hp)
theorem gi_inner (U : Nat → Int32 → Int32 → Prop) (f : Nat → Int32) (E : Nat) (Q : Int32 → Prop) (hx : ∀ m c, Q c → U (m + 1) c (nI E)) (hs : ∀ m c t, t < E → U m (c + f t) (nI (t + 1)) → U (m + 1) c (nI t)) : ∀ d t c, t + d = E → Q (gi_sm f d t c) → U (d + 1) c (nI t) := by
  intro d
  induction d with
  | zero =>
    intro t c ht hq
    have e : t = E := by omega
    rw [e]
    exact hx 0 c hq
  | succ d ih =>
    intro t c ht hq
    exact hs (d + 1) c t (by omega) (ih (t + 1) _ (by omega) hq)
section
variable {n : Nat} {a b o : Nat → Int32}
theorem gi_yi_two {post : Int32 → SY → Prop} {J : Int32 → Int32 → Int32 → (Nat → Int32) → (Nat → Int32) → (Nat → Int32) → Prop} {i j w : Nat} {x c : Int32} (hi7 : i < 7) (hj7 : j < 7) (hq : J (gi_sm (gi_f2 o i j) 4 0 c) (nI (w + 1)) (nI n) a b o) : ∃ m : Nat, wY_two_45 post J (nI i) (nI j) x (nI w) (nI n) a b o m c 0 := by
  refine ⟨4 + 1, gi_inner (fun m c t => wY_two_45 post J (nI i) (nI j) x (nI w) (nI n) a b o m c t) (gi_f2 o i j) 4 (fun c => J c (nI (w + 1)) (nI n) a b o) (fun m c h => br_t (by decide) (nm_r (nI_1 w) h)) ?_ 4 0 c (by omega) hq⟩
  intro m c t ht h
  refine br_f (nI_ge (b := 4) ht (by decide)) (gi_yG 0 hi7 (by omega) (by omega) (gi_yG 1 hj7 (by omega) (by omega) ?_))
  by_cases z : gi_at o i t 0 = gi_at o j t 1
  · have e : gi_f2 o i j t = 1 := gi_e1 z
    rw [e] at h
    exact br_t z (nm_e (nm_r (nI_1 t) h))
  · have e : gi_f2 o i j t = 0 := gi_e0 z
    rw [e, Int32.add_zero] at h
    exact br_f z (nm_r (nI_1 t) h)
theorem gi_yi_three {post : Int32 → SY → Prop} {J : Int32 → Int32 → Int32 → (Nat → Int32) → (Nat → Int32) → (Nat → Int32) → Prop} {i j k w : Nat} {x c : Int32} (hi7 : i < 7) (hj7 : j < 7) (hk7 : k < 7) (hq : J (gi_sm (gi_f3 o i j k) 8 0 c) (nI (w + 1)) (nI n) a b o) : ∃ m : Nat, wY_three_54 post J (nI i) (nI j) (nI k) x (nI w) (nI n) a b o m c 0 := by
  refine ⟨8 + 1, gi_inner (fun m c t => wY_three_54 post J (nI i) (nI j) (nI k) x (nI w) (nI n) a b o m c t) (gi_f3 o i j k) 8 (fun c => J c (nI (w + 1)) (nI n) a b o) (fun m c h => br_t (by decide) (nm_r (nI_1 w) h)) ?_ 8 0 c (by omega) hq⟩
  intro m c t ht h
  refine br_f (nI_ge (b := 8) ht (by decide)) (gi_yG 0 hi7 (by omega) (by omega) (gi_yG 1 hj7 (by omega) (by omega) ?_))
  by_cases z : gi_at o i t 0 = gi_at o j t 1
  · refine br_t z (gi_yG 2 hk7 (by omega) (by omega) ?_)
    by_cases y : gi_at o i t 0 = gi_at o k t 2
    · have e : gi_f3 o i j k t = 1 := by unfold gi_f3; rw [gi_e1 z, gi_e1 y]; decide
      rw [e] at h
      exact br_t y (nm_e (nm_r (nI_1 t) h))
    · have e : gi_f3 o i j k t = 0 := by unfold gi_f3; rw [gi_e1 z, gi_e0 y]; decide
      rw [e, Int32.add_zero] at h
      exact br_f y (nm_r (nI_1 t) h)
  · have e : gi_f3 o i j k t = 0 := by unfold gi_f3; rw [gi_e0 z, Int32.zero_mul]
    rw [e, Int32.add_zero] at h
    exact br_f z (nm_r (nI_1 t) h)
theorem gi_yi_four {post : Int32 → SY → Prop} {J : Int32 → Int32 → Int32 → (Nat → Int32) → (Nat → Int32) → (Nat → Int32) → Prop} {i j k l w : Nat} {x c : Int32} (hi7 : i < 7) (hj7 : j < 7) (hk7 : k < 7) (hl7 : l < 7) (hq : J (gi_sm (gi_f4 o i j k l) 16 0 c) (nI (w + 1)) (nI n) a b o) : ∃ m : Nat, wY_four_63 post J (nI i) (nI j) (nI k) (nI l) x (nI w) (nI n) a b o m c 0 := by
  refine ⟨16 + 1, gi_inner (fun m c t => wY_four_63 post J (nI i) (nI j) (nI k) (nI l) x (nI w) (nI n) a b o m c t) (gi_f4 o i j k l) 16 (fun c => J c (nI (w + 1)) (nI n) a b o) (fun m c h => br_t (by decide) (nm_r (nI_1 w) h)) ?_ 16 0 c (by omega) hq⟩
  intro m c t ht h
  refine br_f (nI_ge (b := 16) ht (by decide)) (gi_yG 0 hi7 (by omega) (by omega) (gi_yG 1 hj7 (by omega) (by omega) ?_))
  by_cases z : gi_at o i t 0 = gi_at o j t 1
  · refine br_t z (gi_yG 2 hk7 (by omega) (by omega) ?_)
    by_cases y : gi_at o i t 0 = gi_at o k t 2
    · refine br_t y (gi_yG 3 hl7 (by omega) (by omega) ?_)
      by_cases x : gi_at o i t 0 = gi_at o l t 3
      · have e : gi_f4 o i j k l t = 1 := by unfold gi_f4; rw [gi_e1 z, gi_e1 y, gi_e1 x]; decide
        rw [e] at h
        exact br_t x (nm_e (nm_r (nI_1 t) h))
      · have e : gi_f4 o i j k l t = 0 := by unfold gi_f4; rw [gi_e1 z, gi_e1 y, gi_e0 x]; decide
        rw [e, Int32.add_zero] at h
        exact br_f x (nm_r (nI_1 t) h)
    · have e : gi_f4 o i j k l t = 0 := by unfold gi_f4; rw [gi_e0 y, Int32.mul_zero, Int32.zero_mul]
      rw [e, Int32.add_zero] at h
      exact br_f y (nm_r (nI_1 t) h)
  · have e : gi_f4 o i j k l t = 0 := by unfold gi_f4; rw [gi_e0 z, Int32.zero_mul, Int32.zero_mul]
    rw [e, Int32.add_zero] at h
    exact br_f z (nm_r (nI_1 t) h)
theorem gi_yi_pairs {post : Int32 → SY → Prop} {J : Int32 → Int32 → Int32 → (Nat → Int32) → (Nat → Int32) → (Nat → Int32) → Prop} {i j k l w : Nat} {x c : Int32} (hi7 : i < 7) (hj7 : j < 7) (hk7 : k < 7) (hl7 : l < 7) (hq : J (gi_sm (gi_fp o i j k l) 16 0 c) (nI (w + 1)) (nI n) a b o) : ∃ m : Nat, wY_pairs_63 post J (nI i) (nI j) (nI k) (nI l) x (nI w) (nI n) a b o m c 0 := by
  refine ⟨16 + 1, gi_inner (fun m c t => wY_pairs_63 post J (nI i) (nI j) (nI k) (nI l) x (nI w) (nI n) a b o m c t) (gi_fp o i j k l) 16 (fun c => J c (nI (w + 1)) (nI n) a b o) (fun m c h => br_t (by decide) (nm_r (nI_1 w) h)) ?_ 16 0 c (by omega) hq⟩
  intro m c t ht h
  refine br_f (nI_ge (b := 16) ht (by decide)) (gi_yG 0 hi7 (by omega) (by omega) (gi_yG 1 hj7 (by omega) (by omega) ?_))
  by_cases z : gi_at o i t 0 = gi_at o j t 1
  · refine br_t z (gi_yG 2 hk7 (by omega) (by omega) (gi_yG 3 hl7 (by omega) (by omega) ?_))
    by_cases y : gi_at o k t 2 = gi_at o l t 3
    · have e : gi_fp o i j k l t = 1 := by unfold gi_fp; rw [gi_e1 z, gi_e1 y]; decide
      rw [e] at h
      exact br_t y (nm_e (nm_r (nI_1 t) h))
    · have e : gi_fp o i j k l t = 0 := by unfold gi_fp; rw [gi_e0 y, Int32.mul_zero]
      rw [e, Int32.add_zero] at h
      exact br_f y (nm_r (nI_1 t) h)
  · have e : gi_fp o i j k l t = 0 := by unfold gi_fp; rw [gi_e0 z, Int32.zero_mul]
    rw [e, Int32.add_zero] at h
    exact br_f z (nm_r (nI_1 t) h)
theorem gi_yi_from {post : Int32 → SY → Prop} {J : Int32 → Int32 → Int32 → (Nat → Int32) → (Nat → Int32) → (Nat → Int32) → Prop} {i j w : Nat} {x c : Int32} (hi7 : i < 7) (hj7 : j < 7) (hq : J (gi_sm (gi_ff o i j) 2 0 c) (nI (w + 1)) (nI n) a b o) : ∃ m : Nat, wY_from_57 post J (nI i) (nI j) x (nI w) (nI n) a b o m c 0 := by
  refine ⟨2 + 1, gi_inner (fun m c t => wY_from_57 post J (nI i) (nI j) x (nI w) (nI n) a b o m c t) (gi_ff o i j) 2 (fun c => J c (nI (w + 1)) (nI n) a b o) (fun m c h => br_t (by decide) (nm_r (nI_1 w) h)) ?_ 2 0 c (by omega) hq⟩
  intro m c t ht h
  refine br_f (nI_ge (b := 2) ht (by decide)) ?_
  rw [gi_2r, nI_clamp (by omega)]
  refine ⟨vp_in_nI (by omega) (by omega), gi_n20, ?_⟩
  by_cases z : o (2 * i + t) / 2 = nI j
  · have e : gi_ff o i j t = 1 := gi_e1 z
    rw [e] at h
    exact br_t z (nm_e (nm_r (nI_1 t) h))
  · have e : gi_ff o i j t = 0 := gi_e0 z
    rw [e, Int32.add_zero] at h
    exact br_f z (nm_r (nI_1 t) h)
end
end
section
/-! the counting methods of both sides, from good arguments and from bad ones -/
section
variable {n : Nat} {a b ls o : Nat → Int32}
theorem gi_Xg_inbred {post : Int32 → SX → Prop} {i : Nat} (hn : n ≤ 7) (hP : ∀ i, i < n → gi_P a b i) (hi : i < n) (hp : post (gi_run (gi_lay a b n 0) (fun o c => if o (2 * i) = o (2 * i + 1) then c + 1 else c) (gi_T a n) 0 0 o).1 (nI n, nI (gi_cc a n), a, b, ls, (gi_run (gi_lay a b n 0) (fun o c => if o (2 * i) = o (2 * i + 1) then c + 1 else c) (gi_T a n) 0 0 o).2)) : wpX_inbred post (nI n, nI (gi_cc a n), a, b, ls, o) (nI i) := by
  have hi7 : i < 7 := by omega
  have hT : gi_T a n ≤ 4096 := gi_Tle hn hP
  unfold wpX_inbred
  dsimp only
  refine gi_xM1 hn hi (br_f gi_n10 (gi_xW hn hP ⟨gi_T a n + 1, ?_⟩))
  refine gi_loop (fun m c w o => wX_inbred_20 post (nI i) (nI (gi_T a n)) m c w (nI n) (nI (gi_cc a n)) a b ls o) (fun c o => post c (nI n, nI (gi_cc a n), a, b, ls, o)) (gi_lay a b n 0) (fun o c => if o (2 * i) = o (2 * i + 1) then c + 1 else c) (gi_T a n) (fun m c o hp => br_t (nI_le (Nat.le_refl _) (by omega)) hp) ?_ (gi_T a n) 0 0 o (by omega) hp
  · intro m c w o hw h
    refine br_f (nI_ge hw (by omega)) (gi_xL hn hP (by omega) ?_)
    try dsimp only at h
    by_cases z : gi_lay a b n 0 w o (2 * i) = gi_lay a b n 0 w o (2 * i + 1)
    · rw [if_pos z] at h; exact gi_xO1 hi7 z (br_f gi_n10 (nm_e (nm_r (nI_1 w) h)))
    · rw [if_neg z] at h; exact gi_xO0 hi7 z (br_t rfl (nm_r (nI_1 w) h))
theorem gi_Xb_inbred {post : Int32 → SX → Prop} {p0 : Int32} (hn : n ≤ 7) (h : ¬ (gi_mem p0 n)) (hp : post (-1) (nI n, nI (gi_cc a n), a, b, ls, o)) : wpX_inbred post (nI n, nI (gi_cc a n), a, b, ls, o) p0 := by
  unfold wpX_inbred
  dsimp only
  by_cases m0 : gi_mem p0 n
  · exact absurd m0 h
  · exact gi_xM0 hn m0 (br_t rfl hp)
theorem gi_Yg_inbred {post : Int32 → SY → Prop} {i : Nat} (hn : n ≤ 7) (hP : ∀ i, i < n → gi_P a b i) (hi : i < n) (hp : post (gi_run (gi_lay a b n 0) (fun o c => if o (2 * i) = o (2 * i + 1) then c + 1 else c) (gi_T a n) 0 0 o).1 (nI n, a, b, (gi_run (gi_lay a b n 0) (fun o c => if o (2 * i) = o (2 * i + 1) then c + 1 else c) (gi_T a n) 0 0 o).2)) : wpY_inbred post (nI n, a, b, o) (nI i) := by
  have hi7 : i < 7 := by omega
  have hT : gi_T a n ≤ 4096 := gi_Tle hn hP
  unfold wpY_inbred
  dsimp only
  refine gi_yM1 hn hi (br_f gi_n10 (gi_yW hn hP ⟨gi_T a n + 1, ?_⟩))
  refine gi_loop (fun m c w o => wY_inbred_20 post (nI i) (nI (gi_T a n)) m c w (nI n) a b o) (fun c o => post c (nI n, a, b, o)) (gi_lay a b n 0) (fun o c => if o (2 * i) = o (2 * i + 1) then c + 1 else c) (gi_T a n) (fun m c o hp => br_t (nI_le (Nat.le_refl _) (by omega)) hp) ?_ (gi_T a n) 0 0 o (by omega) hp
  · intro m c w o hw h
    refine br_f (nI_ge hw (by omega)) (gi_yL hn hP (by omega) ?_)
    try dsimp only at h
    show _ ∧ _
    refine ⟨gi_i2 hi7, gi_i3 hi7, ?_⟩
    rw [gi_c2 hi7, gi_c3 hi7]
    by_cases z : gi_lay a b n 0 w o (2 * i) = gi_lay a b n 0 w o (2 * i + 1)
    · rw [if_pos z] at h; exact br_t z (nm_e (nm_r (nI_1 w) h))
    · rw [if_neg z] at h; exact br_f z (nm_r (nI_1 w) h)
theorem gi_Yb_inbred {post : Int32 → SY → Prop} {p0 : Int32} (hn : n ≤ 7) (h : ¬ (gi_mem p0 n)) (hp : post (-1) (nI n, a, b, o)) : wpY_inbred post (nI n, a, b, o) p0 := by
  unfold wpY_inbred
  dsimp only
  by_cases m0 : gi_mem p0 n
  · exact absurd m0 h
  · exact gi_yM0 hn m0 (br_t rfl hp)
theorem gi_Xg_two {post : Int32 → SX → Prop} {i j : Nat} (hn : n ≤ 7) (hP : ∀ i, i < n → gi_P a b i) (hi : i < n) (hj : j < n) (hp : post (gi_run (gi_lay a b n 0) (fun o c => c + gi_X2 o i j) (gi_T a n) 0 0 o).1 (nI n, nI (gi_cc a n), a, b, ls, (gi_run (gi_lay a b n 0) (fun o c => c + gi_X2 o i j) (gi_T a n) 0 0 o).2)) : wpX_two post (nI n, nI (gi_cc a n), a, b, ls, o) (nI i) (nI j) := by
  have hi7 : i < 7 := by omega
  have hj7 : j < 7 := by omega
  have hT : gi_T a n ≤ 4096 := gi_Tle hn hP
  unfold wpX_two
  dsimp only
  refine gi_xM1 hn hi (br_f gi_n10 (gi_xM1 hn hj (br_f gi_n10 (gi_xW hn hP ⟨gi_T a n + 1, ?_⟩))))
  refine gi_loop (fun m c w o => wX_two_29 post (nI i) (nI j) (nI (gi_T a n)) m c w (nI n) (nI (gi_cc a n)) a b ls o) (fun c o => post c (nI n, nI (gi_cc a n), a, b, ls, o)) (gi_lay a b n 0) (fun o c => c + gi_X2 o i j) (gi_T a n) (fun m c o hp => br_t (nI_le (Nat.le_refl _) (by omega)) hp) ?_ (gi_T a n) 0 0 o (by omega) hp
  · intro m c w o hw h
    refine br_f (nI_ge hw (by omega)) (gi_xL hn hP (by omega) ?_)
    exact gi_x2 hi7 hj7 (nm_e (nm_r (nI_1 w) h))
theorem gi_Xb_two {post : Int32 → SX → Prop} {p0 p1 : Int32} (hn : n ≤ 7) (h : ¬ (gi_mem p0 n ∧ gi_mem p1 n)) (hp : post (-1) (nI n, nI (gi_cc a n), a, b, ls, o)) : wpX_two post (nI n, nI (gi_cc a n), a, b, ls, o) p0 p1 := by
  unfold wpX_two
  dsimp only
  by_cases m0 : gi_mem p0 n
  · by_cases m1 : gi_mem p1 n
    · exact absurd ⟨m0, m1⟩ h
    · obtain ⟨j0, hj0, rfl⟩ := m0; exact gi_xM1 hn hj0 (br_f gi_n10 (gi_xM0 hn m1 (br_t rfl hp)))
  · exact gi_xM0 hn m0 (br_t rfl hp)
theorem gi_Yg_two {post : Int32 → SY → Prop} {i j : Nat} (hn : n ≤ 7) (hP : ∀ i, i < n → gi_P a b i) (hi : i < n) (hj : j < n) (hp : post (gi_run (gi_lay a b n 0) (fun o c => gi_sm (gi_f2 o i j) 4 0 c) (gi_T a n) 0 0 o).1 (nI n, a, b, (gi_run (gi_lay a b n 0) (fun o c => gi_sm (gi_f2 o i j) 4 0 c) (gi_T a n) 0 0 o).2)) : wpY_two post (nI n, a, b, o) (nI i) (nI j) := by
  have hi7 : i < 7 := by omega
  have hj7 : j < 7 := by omega
  have hT : gi_T a n ≤ 4096 := gi_Tle hn hP
  unfold wpY_two
  dsimp only
  refine gi_yM1 hn hi (br_f gi_n10 (gi_yM1 hn hj (br_f gi_n10 (gi_yW hn hP ⟨gi_T a n + 1, ?_⟩))))
  refine gi_loop (fun m c w o => wY_two_29 post (nI i) (nI j) (nI (gi_T a n)) m c w (nI n) a b o) (fun c o => post c (nI n, a, b, o)) (gi_lay a b n 0) (fun o c => gi_sm (gi_f2 o i j) 4 0 c) (gi_T a n) (fun m c o hp => br_t (nI_le (Nat.le_refl _) (by omega)) hp) ?_ (gi_T a n) 0 0 o (by omega) hp
  · intro m c w o hw h
    refine br_f (nI_ge hw (by omega)) (gi_yL hn hP (by omega) ?_)
    exact gi_yi_two hi7 hj7 h
theorem gi_Yb_two {post : Int32 → SY → Prop} {p0 p1 : Int32} (hn : n ≤ 7) (h : ¬ (gi_mem p0 n ∧ gi_mem p1 n)) (hp : post (-1) (nI n, a, b, o)) : wpY_two post (nI n, a, b, o) p0 p1 := by
  unfold wpY_two
  dsimp only
  by_cases m0 : gi_mem p0 n
  · by_cases m1 : gi_mem p1 n
    · exact absurd ⟨m0, m1⟩ h
    · obtain ⟨j0, hj0, rfl⟩ := m0; exact gi_yM1 hn hj0 (br_f gi_n10 (gi_yM0 hn m1 (br_t rfl hp)))
  · exact gi_yM0 hn m0 (br_t rfl hp)
theorem gi_Xg_three {post : Int32 → SX → Prop} {i j k : Nat} (hn : n ≤ 7) (hP : ∀ i, i < n → gi_P a b i) (hi : i < n) (hj : j < n) (hk : k < n) (hp : post (gi_run (gi_lay a b n 0) (fun o c => c + gi_X3 o i j k) (gi_T a n) 0 0 o).1 (nI n, nI (gi_cc a n), a, b, ls, (gi_run (gi_lay a b n 0) (fun o c => c + gi_X3 o i j k) (gi_T a n) 0 0 o).2)) : wpX_three post (nI n, nI (gi_cc a n), a, b, ls, o) (nI i) (nI j) (nI k) := by
  have hi7 : i < 7 := by omega
  have hj7 : j < 7 := by omega
  have hk7 : k < 7 := by omega
  have hT : gi_T a n ≤ 4096 := gi_Tle hn hP
  unfold wpX_three
  dsimp only
  refine gi_xM1 hn hi (br_f gi_n10 (gi_xM1 hn hj (br_f gi_n10 (gi_xM1 hn hk (br_f gi_n10 (gi_xW hn hP ⟨gi_T a n + 1, ?_⟩))))))
  refine gi_loop (fun m c w o => wX_three_38 post (nI i) (nI j) (nI k) (nI (gi_T a n)) m c w (nI n) (nI (gi_cc a n)) a b ls o) (fun c o => post c (nI n, nI (gi_cc a n), a, b, ls, o)) (gi_lay a b n 0) (fun o c => c + gi_X3 o i j k) (gi_T a n) (fun m c o hp => br_t (nI_le (Nat.le_refl _) (by omega)) hp) ?_ (gi_T a n) 0 0 o (by omega) hp
  · intro m c w o hw h
    refine br_f (nI_ge hw (by omega)) (gi_xL hn hP (by omega) ?_)
    exact gi_x3 hi7 hj7 hk7 (nm_e (nm_r (nI_1 w) h))
theorem gi_Xb_three {post : Int32 → SX → Prop} {p0 p1 p2 : Int32} (hn : n ≤ 7) (h : ¬ (gi_mem p0 n ∧ gi_mem p1 n ∧ gi_mem p2 n)) (hp : post (-1) (nI n, nI (gi_cc a n), a, b, ls, o)) : wpX_three post (nI n, nI (gi_cc a n), a, b, ls, o) p0 p1 p2 := by
  unfold wpX_three
  dsimp only
  by_cases m0 : gi_mem p0 n
  · by_cases m1 : gi_mem p1 n
    · by_cases m2 : gi_mem p2 n
      · exact absurd ⟨m0, m1, m2⟩ h
      · obtain ⟨j0, hj0, rfl⟩ := m0; obtain ⟨j1, hj1, rfl⟩ := m1; exact gi_xM1 hn hj0 (br_f gi_n10 (gi_xM1 hn hj1 (br_f gi_n10 (gi_xM0 hn m2 (br_t rfl hp)))))
    · obtain ⟨j0, hj0, rfl⟩ := m0; exact gi_xM1 hn hj0 (br_f gi_n10 (gi_xM0 hn m1 (br_t rfl hp)))
  · exact gi_xM0 hn m0 (br_t rfl hp)
theorem gi_Yg_three {post : Int32 → SY → Prop} {i j k : Nat} (hn : n ≤ 7) (hP : ∀ i, i < n → gi_P a b i) (hi : i < n) (hj : j < n) (hk : k < n) (hp : post (gi_run (gi_lay a b n 0) (fun o c => gi_sm (gi_f3 o i j k) 8 0 c) (gi_T a n) 0 0 o).1 (nI n, a, b, (gi_run (gi_lay a b n 0) (fun o c => gi_sm (gi_f3 o i j k) 8 0 c) (gi_T a n) 0 0 o).2)) : wpY_three post (nI n, a, b, o) (nI i) (nI j) (nI k) := by
  have hi7 : i < 7 := by omega
  have hj7 : j < 7 := by omega
  have hk7 : k < 7 := by omega
  have hT : gi_T a n ≤ 4096 := gi_Tle hn hP
  unfold wpY_three
  dsimp only
  refine gi_yM1 hn hi (br_f gi_n10 (gi_yM1 hn hj (br_f gi_n10 (gi_yM1 hn hk (br_f gi_n10 (gi_yW hn hP ⟨gi_T a n + 1, ?_⟩))))))
  refine gi_loop (fun m c w o => wY_three_38 post (nI i) (nI j) (nI k) (nI (gi_T a n)) m c w (nI n) a b o) (fun c o => post c (nI n, a, b, o)) (gi_lay a b n 0) (fun o c => gi_sm (gi_f3 o i j k) 8 0 c) (gi_T a n) (fun m c o hp => br_t (nI_le (Nat.le_refl _) (by omega)) hp) ?_ (gi_T a n) 0 0 o (by omega) hp
  · intro m c w o hw h
    refine br_f (nI_ge hw (by omega)) (gi_yL hn hP (by omega) ?_)
    exact gi_yi_three hi7 hj7 hk7 h
theorem gi_Yb_three {post : Int32 → SY → Prop} {p0 p1 p2 : Int32} (hn : n ≤ 7) (h : ¬ (gi_mem p0 n ∧ gi_mem p1 n ∧ gi_mem p2 n)) (hp : post (-1) (nI n, a, b, o)) : wpY_three post (nI n, a, b, o) p0 p1 p2 := by
  unfold wpY_three
  dsimp only
  by_cases m0 : gi_mem p0 n
  · by_cases m1 : gi_mem p1 n
    · by_cases m2 : gi_mem p2 n
      · exact absurd ⟨m0, m1, m2⟩ h
      · obtain ⟨j0, hj0, rfl⟩ := m0; obtain ⟨j1, hj1, rfl⟩ := m1; exact gi_yM1 hn hj0 (br_f gi_n10 (gi_yM1 hn hj1 (br_f gi_n10 (gi_yM0 hn m2 (br_t rfl hp)))))
    · obtain ⟨j0, hj0, rfl⟩ := m0; exact gi_yM1 hn hj0 (br_f gi_n10 (gi_yM0 hn m1 (br_t rfl hp)))
  · exact gi_yM0 hn m0 (br_t rfl hp)
theorem gi_Xg_four {post : Int32 → SX → Prop} {i j k l : Nat} (hn : n ≤ 7) (hP : ∀ i, i < n → gi_P a b i) (hi : i < n) (hj : j < n) (hk : k < n) (hl : l < n) (hp : post (gi_run (gi_lay a b n 0) (fun o c => c + gi_X4 o i j k l) (gi_T a n) 0 0 o).1 (nI n, nI (gi_cc a n), a, b, ls, (gi_run (gi_lay a b n 0) (fun o c => c + gi_X4 o i j k l) (gi_T a n) 0 0 o).2)) : wpX_four post (nI n, nI (gi_cc a n), a, b, ls, o) (nI i) (nI j) (nI k) (nI l) := by
  have hi7 : i < 7 := by omega
  have hj7 : j < 7 := by omega
  have hk7 : k < 7 := by omega
  have hl7 : l < 7 := by omega
  have hT : gi_T a n ≤ 4096 := gi_Tle hn hP
  unfold wpX_four
  dsimp only
  refine gi_xM1 hn hi (br_f gi_n10 (gi_xM1 hn hj (br_f gi_n10 (gi_xM1 hn hk (br_f gi_n10 (gi_xM1 hn hl (br_f gi_n10 (gi_xW hn hP ⟨gi_T a n + 1, ?_⟩))))))))
  refine gi_loop (fun m c w o => wX_four_47 post (nI i) (nI j) (nI k) (nI l) (nI (gi_T a n)) m c w (nI n) (nI (gi_cc a n)) a b ls o) (fun c o => post c (nI n, nI (gi_cc a n), a, b, ls, o)) (gi_lay a b n 0) (fun o c => c + gi_X4 o i j k l) (gi_T a n) (fun m c o hp => br_t (nI_le (Nat.le_refl _) (by omega)) hp) ?_ (gi_T a n) 0 0 o (by omega) hp
  · intro m c w o hw h
    refine br_f (nI_ge hw (by omega)) (gi_xL hn hP (by omega) ?_)
    exact gi_x4 hi7 hj7 hk7 hl7 (nm_e (nm_r (nI_1 w) h))
theorem gi_Xb_four {post : Int32 → SX → Prop} {p0 p1 p2 p3 : Int32} (hn : n ≤ 7) (h : ¬ (gi_mem p0 n ∧ gi_mem p1 n ∧ gi_mem p2 n ∧ gi_mem p3 n)) (hp : post (-1) (nI n, nI (gi_cc a n), a, b, ls, o)) : wpX_four post (nI n, nI (gi_cc a n), a, b, ls, o) p0 p1 p2 p3 := by
  unfold wpX_four
  dsimp only
  by_cases m0 : gi_mem p0 n
  · by_cases m1 : gi_mem p1 n
    · by_cases m2 : gi_mem p2 n
      · by_cases m3 : gi_mem p3 n
        · exact absurd ⟨m0, m1, m2, m3⟩ h
        · obtain ⟨j0, hj0, rfl⟩ := m0; obtain ⟨j1, hj1, rfl⟩ := m1; obtain ⟨j2, hj2, rfl⟩ := m2; exact gi_xM1 hn hj0 (br_f gi_n10 (gi_xM1 hn hj1 (br_f gi_n10 (gi_xM1 hn hj2 (br_f gi_n10 (gi_xM0 hn m3 (br_t rfl hp)))))))
      · obtain ⟨j0, hj0, rfl⟩ := m0; obtain ⟨j1, hj1, rfl⟩ := m1; exact gi_xM1 hn hj0 (br_f gi_n10 (gi_xM1 hn hj1 (br_f gi_n10 (gi_xM0 hn m2 (br_t rfl hp)))))
    · obtain ⟨j0, hj0, rfl⟩ := m0; exact gi_xM1 hn hj0 (br_f gi_n10 (gi_xM0 hn m1 (br_t rfl hp)))
  · exact gi_xM0 hn m0 (br_t rfl hp)
theorem gi_Yg_four {post : Int32 → SY → Prop} {i j k l : Nat} (hn : n ≤ 7) (hP : ∀ i, i < n → gi_P a b i) (hi : i < n) (hj : j < n) (hk : k < n) (hl : l < n) (hp : post (gi_run (gi_lay a b n 0) (fun o c => gi_sm (gi_f4 o i j k l) 16 0 c) (gi_T a n) 0 0 o).1 (nI n, a, b, (gi_run (gi_lay a b n 0) (fun o c => gi_sm (gi_f4 o i j k l) 16 0 c) (gi_T a n) 0 0 o).2)) : wpY_four post (nI n, a, b, o) (nI i) (nI j) (nI k) (nI l) := by
  have hi7 : i < 7 := by omega
  have hj7 : j < 7 := by omega
  have hk7 : k < 7 := by omega
  have hl7 : l < 7 := by omega
  have hT : gi_T a n ≤ 4096 := gi_Tle hn hP
  unfold wpY_four
  dsimp only
  refine gi_yM1 hn hi (br_f gi_n10 (gi_yM1 hn hj (br_f gi_n10 (gi_yM1 hn hk (br_f gi_n10 (gi_yM1 hn hl (br_f gi_n10 (gi_yW hn hP ⟨gi_T a n + 1, ?_⟩))))))))
  refine gi_loop (fun m c w o => wY_four_47 post (nI i) (nI j) (nI k) (nI l) (nI (gi_T a n)) m c w (nI n) a b o) (fun c o => post c (nI n, a, b, o)) (gi_lay a b n 0) (fun o c => gi_sm (gi_f4 o i j k l) 16 0 c) (gi_T a n) (fun m c o hp => br_t (nI_le (Nat.le_refl _) (by omega)) hp) ?_ (gi_T a n) 0 0 o (by omega) hp
  · intro m c w o hw h
    refine br_f (nI_ge hw (by omega)) (gi_yL hn hP (by omega) ?_)
    exact gi_yi_four hi7 hj7 hk7 hl7 h
theorem gi_Yb_four {post : Int32 → SY → Prop} {p0 p1 p2 p3 : Int32} (hn : n ≤ 7) (h : ¬ (gi_mem p0 n ∧ gi_mem p1 n ∧ gi_mem p2 n ∧ gi_mem p3 n)) (hp : post (-1) (nI n, a, b, o)) : wpY_four post (nI n, a, b, o) p0 p1 p2 p3 := by
  unfold wpY_four
  dsimp only
  by_cases m0 : gi_mem p0 n
  · by_cases m1 : gi_mem p1 n
    · by_cases m2 : gi_mem p2 n
      · by_cases m3 : gi_mem p3 n
        · exact absurd ⟨m0, m1, m2, m3⟩ h
        · obtain ⟨j0, hj0, rfl⟩ := m0; obtain ⟨j1, hj1, rfl⟩ := m1; obtain ⟨j2, hj2, rfl⟩ := m2; exact gi_yM1 hn hj0 (br_f gi_n10 (gi_yM1 hn hj1 (br_f gi_n10 (gi_yM1 hn hj2 (br_f gi_n10 (gi_yM0 hn m3 (br_t rfl hp)))))))
      · obtain ⟨j0, hj0, rfl⟩ := m0; obtain ⟨j1, hj1, rfl⟩ := m1; exact gi_yM1 hn hj0 (br_f gi_n10 (gi_yM1 hn hj1 (br_f gi_n10 (gi_yM0 hn m2 (br_t rfl hp)))))
    · obtain ⟨j0, hj0, rfl⟩ := m0; exact gi_yM1 hn hj0 (br_f gi_n10 (gi_yM0 hn m1 (br_t rfl hp)))
  · exact gi_yM0 hn m0 (br_t rfl hp)
theorem gi_Xg_pairs {post : Int32 → SX → Prop} {i j k l : Nat} (hn : n ≤ 7) (hP : ∀ i, i < n → gi_P a b i) (hi : i < n) (hj : j < n) (hk : k < n) (hl : l < n) (hp : post (gi_run (gi_lay a b n 0) (fun o c => c + gi_X2 o i j * gi_X2 o k l) (gi_T a n) 0 0 o).1 (nI n, nI (gi_cc a n), a, b, ls, (gi_run (gi_lay a b n 0) (fun o c => c + gi_X2 o i j * gi_X2 o k l) (gi_T a n) 0 0 o).2)) : wpX_pairs post (nI n, nI (gi_cc a n), a, b, ls, o) (nI i) (nI j) (nI k) (nI l) := by
  have hi7 : i < 7 := by omega
  have hj7 : j < 7 := by omega
  have hk7 : k < 7 := by omega
  have hl7 : l < 7 := by omega
  have hT : gi_T a n ≤ 4096 := gi_Tle hn hP
  unfold wpX_pairs
  dsimp only
  refine gi_xM1 hn hi (br_f gi_n10 (gi_xM1 hn hj (br_f gi_n10 (gi_xM1 hn hk (br_f gi_n10 (gi_xM1 hn hl (br_f gi_n10 (gi_xW hn hP ⟨gi_T a n + 1, ?_⟩))))))))
  refine gi_loop (fun m c w o => wX_pairs_47 post (nI i) (nI j) (nI k) (nI l) (nI (gi_T a n)) m c w (nI n) (nI (gi_cc a n)) a b ls o) (fun c o => post c (nI n, nI (gi_cc a n), a, b, ls, o)) (gi_lay a b n 0) (fun o c => c + gi_X2 o i j * gi_X2 o k l) (gi_T a n) (fun m c o hp => br_t (nI_le (Nat.le_refl _) (by omega)) hp) ?_ (gi_T a n) 0 0 o (by omega) hp
  · intro m c w o hw h
    refine br_f (nI_ge hw (by omega)) (gi_xL hn hP (by omega) ?_)
    exact gi_x2 hi7 hj7 (gi_x2 hk7 hl7 (nm_e (nm_r (nI_1 w) h)))
theorem gi_Xb_pairs {post : Int32 → SX → Prop} {p0 p1 p2 p3 : Int32} (hn : n ≤ 7) (h : ¬ (gi_mem p0 n ∧ gi_mem p1 n ∧ gi_mem p2 n ∧ gi_mem p3 n)) (hp : post (-1) (nI n, nI (gi_cc a n), a, b, ls, o)) : wpX_pairs post (nI n, nI (gi_cc a n), a, b, ls, o) p0 p1 p2 p3 := by
  unfold wpX_pairs
  dsimp only
  by_cases m0 : gi_mem p0 n
  · by_cases m1 : gi_mem p1 n
    · by_cases m2 : gi_mem p2 n
      · by_cases m3 : gi_mem p3 n
        · exact absurd ⟨m0, m1, m2, m3⟩ h
        · obtain ⟨j0, hj0, rfl⟩ := m0; obtain ⟨j1, hj1, rfl⟩ := m1; obtain ⟨j2, hj2, rfl⟩ := m2; exact gi_xM1 hn hj0 (br_f gi_n10 (gi_xM1 hn hj1 (br_f gi_n10 (gi_xM1 hn hj2 (br_f gi_n10 (gi_xM0 hn m3 (br_t rfl hp)))))))
      · obtain ⟨j0, hj0, rfl⟩ := m0; obtain ⟨j1, hj1, rfl⟩ := m1; exact gi_xM1 hn hj0 (br_f gi_n10 (gi_xM1 hn hj1 (br_f gi_n10 (gi_xM0 hn m2 (br_t rfl hp)))))
    · obtain ⟨j0, hj0, rfl⟩ := m0; exact gi_xM1 hn hj0 (br_f gi_n10 (gi_xM0 hn m1 (br_t rfl hp)))
  · exact gi_xM0 hn m0 (br_t rfl hp)
theorem gi_Yg_pairs {post : Int32 → SY → Prop} {i j k l : Nat} (hn : n ≤ 7) (hP : ∀ i, i < n → gi_P a b i) (hi : i < n) (hj : j < n) (hk : k < n) (hl : l < n) (hp : post (gi_run (gi_lay a b n 0) (fun o c => gi_sm (gi_fp o i j k l) 16 0 c) (gi_T a n) 0 0 o).1 (nI n, a, b, (gi_run (gi_lay a b n 0) (fun o c => gi_sm (gi_fp o i j k l) 16 0 c) (gi_T a n) 0 0 o).2)) : wpY_pairs post (nI n, a, b, o) (nI i) (nI j) (nI k) (nI l) := by
  have hi7 : i < 7 := by omega
  have hj7 : j < 7 := by omega
  have hk7 : k < 7 := by omega
  have hl7 : l < 7 := by omega
  have hT : gi_T a n ≤ 4096 := gi_Tle hn hP
  unfold wpY_pairs
  dsimp only
  refine gi_yM1 hn hi (br_f gi_n10 (gi_yM1 hn hj (br_f gi_n10 (gi_yM1 hn hk (br_f gi_n10 (gi_yM1 hn hl (br_f gi_n10 (gi_yW hn hP ⟨gi_T a n + 1, ?_⟩))))))))
  refine gi_loop (fun m c w o => wY_pairs_47 post (nI i) (nI j) (nI k) (nI l) (nI (gi_T a n)) m c w (nI n) a b o) (fun c o => post c (nI n, a, b, o)) (gi_lay a b n 0) (fun o c => gi_sm (gi_fp o i j k l) 16 0 c) (gi_T a n) (fun m c o hp => br_t (nI_le (Nat.le_refl _) (by omega)) hp) ?_ (gi_T a n) 0 0 o (by omega) hp
  · intro m c w o hw h
    refine br_f (nI_ge hw (by omega)) (gi_yL hn hP (by omega) ?_)
    exact gi_yi_pairs hi7 hj7 hk7 hl7 h
theorem gi_Yb_pairs {post : Int32 → SY → Prop} {p0 p1 p2 p3 : Int32} (hn : n ≤ 7) (h : ¬ (gi_mem p0 n ∧ gi_mem p1 n ∧ gi_mem p2 n ∧ gi_mem p3 n)) (hp : post (-1) (nI n, a, b, o)) : wpY_pairs post (nI n, a, b, o) p0 p1 p2 p3 := by
  unfold wpY_pairs
  dsimp only
  by_cases m0 : gi_mem p0 n
  · by_cases m1 : gi_mem p1 n
    · by_cases m2 : gi_mem p2 n
      · by_cases m3 : gi_mem p3 n
        · exact absurd ⟨m0, m1, m2, m3⟩ h
        · obtain ⟨j0, hj0, rfl⟩ := m0; obtain ⟨j1, hj1, rfl⟩ := m1; obtain ⟨j2, hj2, rfl⟩ := m2; exact gi_yM1 hn hj0 (br_f gi_n10 (gi_yM1 hn hj1 (br_f gi_n10 (gi_yM1 hn hj2 (br_f gi_n10 (gi_yM0 hn m3 (br_t rfl hp)))))))
      · obtain ⟨j0, hj0, rfl⟩ := m0; obtain ⟨j1, hj1, rfl⟩ := m1; exact gi_yM1 hn hj0 (br_f gi_n10 (gi_yM1 hn hj1 (br_f gi_n10 (gi_yM0 hn m2 (br_t rfl hp)))))
    · obtain ⟨j0, hj0, rfl⟩ := m0; exact gi_yM1 hn hj0 (br_f gi_n10 (gi_yM0 hn m1 (br_t rfl hp)))
  · exact gi_yM0 hn m0 (br_t rfl hp)
theorem gi_Xg_state {post : Int32 → SX → Prop} {i j : Nat} {s : Int32} (hn : n ≤ 7) (hP : ∀ i, i < n → gi_P a b i) (hi : i < n) (hj : j < n) (hs1 : ¬ s < 1) (hs9 : s ≤ 9) (hij : ¬ nI i = nI j) (hp : post (gi_run (gi_lay a b n 0) (fun o c => if gi_sX (o (2 * i)) (o (2 * i + 1)) (o (2 * j)) (o (2 * j + 1)) = s then c + 1 else c) (gi_T a n) 0 0 o).1 (nI n, nI (gi_cc a n), a, b, ls, (gi_run (gi_lay a b n 0) (fun o c => if gi_sX (o (2 * i)) (o (2 * i + 1)) (o (2 * j)) (o (2 * j + 1)) = s then c + 1 else c) (gi_T a n) 0 0 o).2)) : wpX_state post (nI n, nI (gi_cc a n), a, b, ls, o) (nI i) (nI j) s := by
  have hi7 : i < 7 := by omega
  have hj7 : j < 7 := by omega
  have hT : gi_T a n ≤ 4096 := gi_Tle hn hP
  unfold wpX_state
  dsimp only
  refine gi_xM1 hn hi (br_f gi_n10 (gi_xM1 hn hj (br_f gi_n10 (br_f hs1 (br_t hs9 (br_f hij (gi_xW hn hP ⟨gi_T a n + 1, ?_⟩)))))))
  refine gi_loop (fun m c w o => wX_state_51 post (nI i) (nI j) s (nI (gi_T a n)) m c w (nI n) (nI (gi_cc a n)) a b ls o) (fun c o => post c (nI n, nI (gi_cc a n), a, b, ls, o)) (gi_lay a b n 0) (fun o c => if gi_sX (o (2 * i)) (o (2 * i + 1)) (o (2 * j)) (o (2 * j + 1)) = s then c + 1 else c) (gi_T a n) (fun m c o hp => br_t (nI_le (Nat.le_refl _) (by omega)) hp) ?_ (gi_T a n) 0 0 o (by omega) hp
  · intro m c w o hw h
    refine br_f (nI_ge hw (by omega)) (gi_xL hn hP (by omega) ?_)
    refine gi_xS hi7 hj7 ?_
    try dsimp only at h
    by_cases z : gi_sX (gi_lay a b n 0 w o (2 * i)) (gi_lay a b n 0 w o (2 * i + 1)) (gi_lay a b n 0 w o (2 * j)) (gi_lay a b n 0 w o (2 * j + 1)) = s
    · rw [if_pos z] at h; exact br_t z (nm_e (nm_r (nI_1 w) h))
    · rw [if_neg z] at h; exact br_f z (nm_r (nI_1 w) h)
theorem gi_Xb_state {post : Int32 → SX → Prop} {p0 p1 p9 : Int32} (hn : n ≤ 7) (h : ¬ (gi_mem p0 n ∧ gi_mem p1 n)) (hp : post (-1) (nI n, nI (gi_cc a n), a, b, ls, o)) : wpX_state post (nI n, nI (gi_cc a n), a, b, ls, o) p0 p1 p9 := by
  unfold wpX_state
  dsimp only
  by_cases m0 : gi_mem p0 n
  · by_cases m1 : gi_mem p1 n
    · exact absurd ⟨m0, m1⟩ h
    · obtain ⟨j0, hj0, rfl⟩ := m0; exact gi_xM1 hn hj0 (br_f gi_n10 (gi_xM0 hn m1 (br_t rfl hp)))
  · exact gi_xM0 hn m0 (br_t rfl hp)
theorem gi_Xs_state {post : Int32 → SX → Prop} {i j : Nat} {s : Int32} (hn : n ≤ 7) (hi : i < n) (hj : j < n) (hs : s < 1 ∨ ¬ s ≤ 9) (hp : post (-1) (nI n, nI (gi_cc a n), a, b, ls, o)) : wpX_state post (nI n, nI (gi_cc a n), a, b, ls, o) (nI i) (nI j) s := by
  unfold wpX_state
  dsimp only
  refine gi_xM1 hn hi (br_f gi_n10 (gi_xM1 hn hj (br_f gi_n10 (?_))))
  by_cases z : s < 1
  · exact br_t z hp
  · exact br_f z (br_f (hs.elim (fun e => absurd e z) id) hp)
theorem gi_Xq_state {post : Int32 → SX → Prop} {i j : Nat} {s : Int32} (hn : n ≤ 7) (hi : i < n) (hj : j < n) (hs1 : ¬ s < 1) (hs9 : s ≤ 9) (hij : nI i = nI j) (hp : post (-4) (nI n, nI (gi_cc a n), a, b, ls, o)) : wpX_state post (nI n, nI (gi_cc a n), a, b, ls, o) (nI i) (nI j) s := by
  unfold wpX_state
  dsimp only
  exact gi_xM1 hn hi (br_f gi_n10 (gi_xM1 hn hj (br_f gi_n10 (br_f hs1 (br_t hs9 (br_t hij hp))))))
theorem gi_Yg_state {post : Int32 → SY → Prop} {i j : Nat} {s : Int32} (hn : n ≤ 7) (hP : ∀ i, i < n → gi_P a b i) (hi : i < n) (hj : j < n) (hs1 : ¬ s < 1) (hs9 : s ≤ 9) (hij : ¬ nI i = nI j) (hp : post (gi_run (gi_lay a b n 0) (fun o c => if gi_sY (o (2 * i)) (o (2 * i + 1)) (o (2 * j)) (o (2 * j + 1)) = s then c + 1 else c) (gi_T a n) 0 0 o).1 (nI n, a, b, (gi_run (gi_lay a b n 0) (fun o c => if gi_sY (o (2 * i)) (o (2 * i + 1)) (o (2 * j)) (o (2 * j + 1)) = s then c + 1 else c) (gi_T a n) 0 0 o).2)) : wpY_state post (nI n, a, b, o) (nI i) (nI j) s := by
  have hi7 : i < 7 := by omega
  have hj7 : j < 7 := by omega
  have hT : gi_T a n ≤ 4096 := gi_Tle hn hP
  unfold wpY_state
  dsimp only
  refine gi_yM1 hn hi (br_f gi_n10 (gi_yM1 hn hj (br_f gi_n10 (br_f hs1 (br_t hs9 (br_f hij (gi_yW hn hP ⟨gi_T a n + 1, ?_⟩)))))))
  refine gi_loop (fun m c w o => wY_state_51 post (nI i) (nI j) s (nI (gi_T a n)) m c w (nI n) a b o) (fun c o => post c (nI n, a, b, o)) (gi_lay a b n 0) (fun o c => if gi_sY (o (2 * i)) (o (2 * i + 1)) (o (2 * j)) (o (2 * j + 1)) = s then c + 1 else c) (gi_T a n) (fun m c o hp => br_t (nI_le (Nat.le_refl _) (by omega)) hp) ?_ (gi_T a n) 0 0 o (by omega) hp
  · intro m c w o hw h
    refine br_f (nI_ge hw (by omega)) (gi_yL hn hP (by omega) ?_)
    refine gi_yS hi7 hj7 ?_
    try dsimp only at h
    by_cases z : gi_sY (gi_lay a b n 0 w o (2 * i)) (gi_lay a b n 0 w o (2 * i + 1)) (gi_lay a b n 0 w o (2 * j)) (gi_lay a b n 0 w o (2 * j + 1)) = s
    · rw [if_pos z] at h; exact br_t z (nm_e (nm_r (nI_1 w) h))
    · rw [if_neg z] at h; exact br_f z (nm_r (nI_1 w) h)
theorem gi_Yb_state {post : Int32 → SY → Prop} {p0 p1 p9 : Int32} (hn : n ≤ 7) (h : ¬ (gi_mem p0 n ∧ gi_mem p1 n)) (hp : post (-1) (nI n, a, b, o)) : wpY_state post (nI n, a, b, o) p0 p1 p9 := by
  unfold wpY_state
  dsimp only
  by_cases m0 : gi_mem p0 n
  · by_cases m1 : gi_mem p1 n
    · exact absurd ⟨m0, m1⟩ h
    · obtain ⟨j0, hj0, rfl⟩ := m0; exact gi_yM1 hn hj0 (br_f gi_n10 (gi_yM0 hn m1 (br_t rfl hp)))
  · exact gi_yM0 hn m0 (br_t rfl hp)
theorem gi_Ys_state {post : Int32 → SY → Prop} {i j : Nat} {s : Int32} (hn : n ≤ 7) (hi : i < n) (hj : j < n) (hs : s < 1 ∨ ¬ s ≤ 9) (hp : post (-1) (nI n, a, b, o)) : wpY_state post (nI n, a, b, o) (nI i) (nI j) s := by
  unfold wpY_state
  dsimp only
  refine gi_yM1 hn hi (br_f gi_n10 (gi_yM1 hn hj (br_f gi_n10 (?_))))
  by_cases z : s < 1
  · exact br_t z hp
  · exact br_f z (br_f (hs.elim (fun e => absurd e z) id) hp)
theorem gi_Yq_state {post : Int32 → SY → Prop} {i j : Nat} {s : Int32} (hn : n ≤ 7) (hi : i < n) (hj : j < n) (hs1 : ¬ s < 1) (hs9 : s ≤ 9) (hij : nI i = nI j) (hp : post (-4) (nI n, a, b, o)) : wpY_state post (nI n, a, b, o) (nI i) (nI j) s := by
  unfold wpY_state
  dsimp only
  exact gi_yM1 hn hi (br_f gi_n10 (gi_yM1 hn hj (br_f gi_n10 (br_f hs1 (br_t hs9 (br_t hij hp))))))
theorem gi_Xg_related {post : Int32 → SX → Prop} {i j : Nat} (hn : n ≤ 7) (hP : ∀ i, i < n → gi_P a b i) (hi : i < n) (hj : j < n) (hp : post (gi_run (gi_lay a b n 0) (fun o c => if gi_X2 o i j ≤ 0 then c else c + 1) (gi_T a n) 0 0 o).1 (nI n, nI (gi_cc a n), a, b, ls, (gi_run (gi_lay a b n 0) (fun o c => if gi_X2 o i j ≤ 0 then c else c + 1) (gi_T a n) 0 0 o).2)) : wpX_related post (nI n, nI (gi_cc a n), a, b, ls, o) (nI i) (nI j) := by
  have hi7 : i < 7 := by omega
  have hj7 : j < 7 := by omega
  have hT : gi_T a n ≤ 4096 := gi_Tle hn hP
  unfold wpX_related
  dsimp only
  refine gi_xM1 hn hi (br_f gi_n10 (gi_xM1 hn hj (br_f gi_n10 (gi_xW hn hP ⟨gi_T a n + 1, ?_⟩))))
  refine gi_loop (fun m c w o => wX_related_29 post (nI i) (nI j) (nI (gi_T a n)) m c w (nI n) (nI (gi_cc a n)) a b ls o) (fun c o => post c (nI n, nI (gi_cc a n), a, b, ls, o)) (gi_lay a b n 0) (fun o c => if gi_X2 o i j ≤ 0 then c else c + 1) (gi_T a n) (fun m c o hp => br_t (nI_le (Nat.le_refl _) (by omega)) hp) ?_ (gi_T a n) 0 0 o (by omega) hp
  · intro m c w o hw h
    refine br_f (nI_ge hw (by omega)) (gi_xL hn hP (by omega) ?_)
    refine gi_x2 hi7 hj7 ?_
    try dsimp only at h
    by_cases z : gi_X2 (gi_lay a b n 0 w o) i j ≤ 0
    · rw [if_pos z] at h; exact br_t z (nm_r (nI_1 w) h)
    · rw [if_neg z] at h; exact br_f z (nm_e (nm_r (nI_1 w) h))
theorem gi_Xb_related {post : Int32 → SX → Prop} {p0 p1 : Int32} (hn : n ≤ 7) (h : ¬ (gi_mem p0 n ∧ gi_mem p1 n)) (hp : post (-1) (nI n, nI (gi_cc a n), a, b, ls, o)) : wpX_related post (nI n, nI (gi_cc a n), a, b, ls, o) p0 p1 := by
  unfold wpX_related
  dsimp only
  by_cases m0 : gi_mem p0 n
  · by_cases m1 : gi_mem p1 n
    · exact absurd ⟨m0, m1⟩ h
    · obtain ⟨j0, hj0, rfl⟩ := m0; exact gi_xM1 hn hj0 (br_f gi_n10 (gi_xM0 hn m1 (br_t rfl hp)))
  · exact gi_xM0 hn m0 (br_t rfl hp)
theorem gi_Yg_related {post : Int32 → SY → Prop} {i j : Nat} (hn : n ≤ 7) (hP : ∀ i, i < n → gi_P a b i) (hi : i < n) (hj : j < n) (hp : post (gi_run (gi_lay a b n 0) (fun o c => if gi_sh o i 0 j ∨ gi_sh o i 1 j then c + 1 else c) (gi_T a n) 0 0 o).1 (nI n, a, b, (gi_run (gi_lay a b n 0) (fun o c => if gi_sh o i 0 j ∨ gi_sh o i 1 j then c + 1 else c) (gi_T a n) 0 0 o).2)) : wpY_related post (nI n, a, b, o) (nI i) (nI j) := by
  have hi7 : i < 7 := by omega
  have hj7 : j < 7 := by omega
  have hT : gi_T a n ≤ 4096 := gi_Tle hn hP
  unfold wpY_related
  dsimp only
  refine gi_yM1 hn hi (br_f gi_n10 (gi_yM1 hn hj (br_f gi_n10 (gi_yW hn hP ⟨gi_T a n + 1, ?_⟩))))
  refine gi_loop (fun m c w o => wY_related_29 post (nI i) (nI j) (nI (gi_T a n)) m c w (nI n) a b o) (fun c o => post c (nI n, a, b, o)) (gi_lay a b n 0) (fun o c => if gi_sh o i 0 j ∨ gi_sh o i 1 j then c + 1 else c) (gi_T a n) (fun m c o hp => br_t (nI_le (Nat.le_refl _) (by omega)) hp) ?_ (gi_T a n) 0 0 o (by omega) hp
  · intro m c w o hw h
    refine br_f (nI_ge hw (by omega)) (gi_yL hn hP (by omega) ?_)
    try dsimp only at h
    by_cases z : gi_sh (gi_lay a b n 0 w o) i 0 j
    · rw [if_pos (Or.inl z)] at h; exact gi_yH 0 hi7 hj7 (by omega) z (br_f gi_n10 (nm_e (nm_r (nI_1 w) h)))
    · refine gi_yH0 0 hi7 hj7 (by omega) z (br_t rfl ?_)
      by_cases y : gi_sh (gi_lay a b n 0 w o) i 1 j
      · rw [if_pos (Or.inr y)] at h; exact gi_yH 1 hi7 hj7 (by omega) y (br_f gi_n10 (nm_e (nm_r (nI_1 w) h)))
      · rw [if_neg (fun e => e.elim z y)] at h; exact gi_yH0 1 hi7 hj7 (by omega) y (br_t rfl (nm_r (nI_1 w) h))
theorem gi_Yb_related {post : Int32 → SY → Prop} {p0 p1 : Int32} (hn : n ≤ 7) (h : ¬ (gi_mem p0 n ∧ gi_mem p1 n)) (hp : post (-1) (nI n, a, b, o)) : wpY_related post (nI n, a, b, o) p0 p1 := by
  unfold wpY_related
  dsimp only
  by_cases m0 : gi_mem p0 n
  · by_cases m1 : gi_mem p1 n
    · exact absurd ⟨m0, m1⟩ h
    · obtain ⟨j0, hj0, rfl⟩ := m0; exact gi_yM1 hn hj0 (br_f gi_n10 (gi_yM0 hn m1 (br_t rfl hp)))
  · exact gi_yM0 hn m0 (br_t rfl hp)
theorem gi_Xg_from {post : Int32 → SX → Prop} {i j : Nat} (hn : n ≤ 7) (hP : ∀ i, i < n → gi_P a b i) (hi : i < n) (hj : j < n) (hf : a j = -1) (hp : post (gi_run (gi_lay a b n 0) (fun o c => c + (gi_cop o (2 * nI j) i + gi_cop o (2 * nI j + 1) i)) (gi_T a n) 0 0 o).1 (nI n, nI (gi_cc a n), a, b, ls, (gi_run (gi_lay a b n 0) (fun o c => c + (gi_cop o (2 * nI j) i + gi_cop o (2 * nI j + 1) i)) (gi_T a n) 0 0 o).2)) : wpX_from post (nI n, nI (gi_cc a n), a, b, ls, o) (nI i) (nI j) := by
  have hi7 : i < 7 := by omega
  have hj7 : j < 7 := by omega
  have hT : gi_T a n ≤ 4096 := gi_Tle hn hP
  unfold wpX_from
  dsimp only
  refine gi_xM1 hn hi (br_f gi_n10 (gi_xM1 hn hj (br_f gi_n10 (gi_xF1 (by omega) hf (br_f gi_n10 (gi_xW hn hP ⟨gi_T a n + 1, ?_⟩))))))
  refine gi_loop (fun m c w o => wX_from_40 post (nI i) (nI j) (nI (gi_T a n)) m c w (nI n) (nI (gi_cc a n)) a b ls o) (fun c o => post c (nI n, nI (gi_cc a n), a, b, ls, o)) (gi_lay a b n 0) (fun o c => c + (gi_cop o (2 * nI j) i + gi_cop o (2 * nI j + 1) i)) (gi_T a n) (fun m c o hp => br_t (nI_le (Nat.le_refl _) (by omega)) hp) ?_ (gi_T a n) 0 0 o (by omega) hp
  · intro m c w o hw h
    refine br_f (nI_ge hw (by omega)) (gi_xL hn hP (by omega) ?_)
    exact gi_xC hi7 (gi_xC hi7 (nm_e (nm_r (nI_1 w) h)))
theorem gi_Xb_from {post : Int32 → SX → Prop} {p0 p1 : Int32} (hn : n ≤ 7) (h : ¬ (gi_mem p0 n ∧ gi_mem p1 n)) (hp : post (-1) (nI n, nI (gi_cc a n), a, b, ls, o)) : wpX_from post (nI n, nI (gi_cc a n), a, b, ls, o) p0 p1 := by
  unfold wpX_from
  dsimp only
  by_cases m0 : gi_mem p0 n
  · by_cases m1 : gi_mem p1 n
    · exact absurd ⟨m0, m1⟩ h
    · obtain ⟨j0, hj0, rfl⟩ := m0; exact gi_xM1 hn hj0 (br_f gi_n10 (gi_xM0 hn m1 (br_t rfl hp)))
  · exact gi_xM0 hn m0 (br_t rfl hp)
theorem gi_Xn_from {post : Int32 → SX → Prop} {i j : Nat} (hn : n ≤ 7) (hP : ∀ i, i < n → gi_P a b i) (hi : i < n) (hj : j < n) (hf : ¬ a j = -1) (hp : post (-4) (nI n, nI (gi_cc a n), a, b, ls, o)) : wpX_from post (nI n, nI (gi_cc a n), a, b, ls, o) (nI i) (nI j) := by
  unfold wpX_from
  dsimp only
  exact gi_xM1 hn hi (br_f gi_n10 (gi_xM1 hn hj (br_f gi_n10 (gi_xF0 (by omega) hf (br_t rfl hp)))))
theorem gi_Yg_from {post : Int32 → SY → Prop} {i j : Nat} (hn : n ≤ 7) (hP : ∀ i, i < n → gi_P a b i) (hi : i < n) (hj : j < n) (hf : a j = -1) (hp : post (gi_run (gi_lay a b n 0) (fun o c => gi_sm (gi_ff o i j) 2 0 c) (gi_T a n) 0 0 o).1 (nI n, a, b, (gi_run (gi_lay a b n 0) (fun o c => gi_sm (gi_ff o i j) 2 0 c) (gi_T a n) 0 0 o).2)) : wpY_from post (nI n, a, b, o) (nI i) (nI j) := by
  have hi7 : i < 7 := by omega
  have hj7 : j < 7 := by omega
  have hT : gi_T a n ≤ 4096 := gi_Tle hn hP
  unfold wpY_from
  dsimp only
  refine gi_yM1 hn hi (br_f gi_n10 (gi_yM1 hn hj (br_f gi_n10 (And.intro (vp_in_nI (by omega) (by omega)) (br_t (by rw [nI_clamp (by omega), hf]; decide) (gi_yW hn hP ⟨gi_T a n + 1, ?_⟩))))))
  refine gi_loop (fun m c w o => wY_from_41 post (nI i) (nI j) (nI (gi_T a n)) m c w (nI n) a b o) (fun c o => post c (nI n, a, b, o)) (gi_lay a b n 0) (fun o c => gi_sm (gi_ff o i j) 2 0 c) (gi_T a n) (fun m c o hp => br_t (nI_le (Nat.le_refl _) (by omega)) hp) ?_ (gi_T a n) 0 0 o (by omega) hp
  · intro m c w o hw h
    refine br_f (nI_ge hw (by omega)) (gi_yL hn hP (by omega) ?_)
    exact gi_yi_from hi7 hj7 h
theorem gi_Yb_from {post : Int32 → SY → Prop} {p0 p1 : Int32} (hn : n ≤ 7) (h : ¬ (gi_mem p0 n ∧ gi_mem p1 n)) (hp : post (-1) (nI n, a, b, o)) : wpY_from post (nI n, a, b, o) p0 p1 := by
  unfold wpY_from
  dsimp only
  by_cases m0 : gi_mem p0 n
  · by_cases m1 : gi_mem p1 n
    · exact absurd ⟨m0, m1⟩ h
    · obtain ⟨j0, hj0, rfl⟩ := m0; exact gi_yM1 hn hj0 (br_f gi_n10 (gi_yM0 hn m1 (br_t rfl hp)))
  · exact gi_yM0 hn m0 (br_t rfl hp)
theorem gi_Yn_from {post : Int32 → SY → Prop} {i j : Nat} (hn : n ≤ 7) (hP : ∀ i, i < n → gi_P a b i) (hi : i < n) (hj : j < n) (hf : ¬ a j = -1) (hp : post (-4) (nI n, a, b, o)) : wpY_from post (nI n, a, b, o) (nI i) (nI j) := by
  have hf2 : ¬ a j < 0 := by
    rcases hP j hj with h | ⟨p, q, hpj, _, ha, _⟩
    · exact absurd h hf
    · rw [ha]; exact nI_pos (by omega)
  unfold wpY_from
  dsimp only
  exact gi_yM1 hn hi (br_f gi_n10 (gi_yM1 hn hj (br_f gi_n10 (And.intro (vp_in_nI (by omega) (by omega)) (br_f (by rw [nI_clamp (by omega)]; exact hf2) hp)))))
end
end
section
/-! what is owed: the relation, and a statement a method -/
/-- both sides hold the same members, parents and genes; the component's line sets are the line of each member, its counter the children -/
def i_Rel (k : Nat) (u : SX) (v : SY) : Prop := ∃ (n : Nat) (a b ls o : Nat → Int32), n ≤ 7 ∧ (∀ i, i < n → gi_G a b ls i) ∧ u = (nI n, nI (gi_cc a n), a, b, ls, o) ∧ v = (nI n, a, b, o)
theorem gi_fin {k n : Nat} {a b ls : Nat → Int32} {R R' : Int32 × (Nat → Int32)} (hn : n ≤ 7) (hG : ∀ i, i < n → gi_G a b ls i) (e : R = R') : R'.1 = R.1 ∧ i_Rel k (nI n, nI (gi_cc a n), a, b, ls, R.2) (nI n, a, b, R'.2) := by
  subst e
  exact ⟨rfl, n, a, b, ls, _, hn, hG, rfl, rfl⟩
theorem gi_Gup {a b ls : Nat → Int32} {n i : Nat} {x y z : Int32} (hi : i < n) (h : gi_G a b ls i) : gi_G (upd a n x) (upd b n y) (upd ls n z) i := by
  rcases h with ⟨h1, h2⟩ | ⟨p, q, hp, hq, h1, h2, h3⟩
  · refine Or.inl ⟨?_, ?_⟩
    · rw [pk_un (by omega)]; exact h1
    · rw [pk_un (by omega)]; exact h2
  · refine Or.inr ⟨p, q, hp, hq, ?_, ?_, ?_⟩
    · rw [pk_un (by omega)]; exact h1
    · rw [pk_un (by omega)]; exact h2
    · rw [pk_un (show i ≠ n by omega), pk_un (show p ≠ n by omega), pk_un (show q ≠ n by omega)]; exact h3
def gi_dn : Nat → Int32
  | 0 => -1
  | m + 1 => nI m
theorem gi_dn1 (m : Nat) : nI m + (-1) = gi_dn m := by
  cases m with
  | zero => decide
  | succ m => exact pk_m1 m
theorem gi_yLn {post : Int32 → Prop} {n i : Nat} {a b ls o : Nat → Int32} (hn : n ≤ 7) (hG : ∀ i, i < n → gi_G a b ls i) (hp : post (ls i)) : ∀ k, k ≤ n → ∀ x, gi_LI ls i k x → wY_line_16 post (nI n) a b o (k + 1) x (gi_dn k) := by
  intro k
  induction k with
  | zero =>
    intro _ x h
    rw [← gi_LIe h] at hp
    exact br_t (show (-1 : Int32) < 0 by decide) hp
  | succ m ih =>
    intro hm x h
    have hin : vp_in (nI m) 7 := vp_in_nI (by omega) (by omega)
    have hc : (nI m).toNatClampNeg = m := nI_clamp (by omega)
    have g := hG m (by omega)
    show wY_line_16 post (nI n) a b o (m + 1 + 1) x (nI m)
    refine br_f (nI_pos (by omega)) ?_
    by_cases z : bt x m = true
    · refine br_t ((gi_tb x m (by omega)).mpr z) ⟨hin, ?_⟩
      rcases g with ⟨g1, g2⟩ | ⟨p, q, hpm, hqm, g1, g2, g3⟩
      · refine br_t (by rw [hc, g1]; decide) (nm_r (gi_dn1 m) ?_)
        exact ih (by omega) x (gi_LI0 (hG m (by omega)) (by omega) h (Or.inr g1))
      · refine br_f (by rw [hc, g1]; exact nI_pos (by omega)) ⟨hin, hin, nm_r (e' := x ||| ((1 : Int32) <<< (nI p &&& 31) ||| (1 : Int32) <<< (nI q &&& 31))) (by rw [hc, g1, g2]) (nm_r (gi_dn1 m) ?_)⟩
        exact ih (by omega) _ (gi_LI1 hpm hqm (by omega) g3 (gi_self (hG p (by omega)) (by omega)) (gi_self (hG q (by omega)) (by omega)) h z)
    · refine br_f (fun e => z ((gi_tb x m (by omega)).mp e)) (nm_r (gi_dn1 m) ?_)
      exact ih (by omega) x (gi_LI0 g (by omega) h (Or.inl z))
theorem i_up {k : Nat} {u : SX} {v : SY} (h : i_Rel k u v) : i_Rel (k + 5) u v := h
theorem i_vc0 : wpX_init (fun u => wpY_init (fun v => i_Rel 0 u v)) := by
  show i_Rel 0 (0, 0, (fun _ => 0), (fun _ => 0), (fun _ => 0), (fun _ => 0)) (0, (fun _ => 0), (fun _ => 0), (fun _ => 0))
  exact ⟨0, (fun _ => 0), (fun _ => 0), (fun _ => 0), (fun _ => 0), by omega, fun i h => absurd h (by omega), rfl, rfl⟩
theorem i_vc_founder {k : Nat} {u : SX} {v : SY} (I : i_Rel k u v) (hk : k + 5 ≤ 2560) : wpX_founder (fun r u' => wpY_founder (fun r' v' => r' = r ∧ i_Rel (k + 5) u' v') v) u := by
  obtain ⟨n, a, b, ls, o, hn, hG, rfl, rfl⟩ := I
  have hP : ∀ i, i < n → gi_P a b i := fun i hi => gi_GP (hG i hi)
  have hR : i_Rel (k + 5) (nI n, nI (gi_cc a n), a, b, ls, o) (nI n, a, b, o) := ⟨n, a, b, ls, o, hn, hG, rfl, rfl⟩
  by_cases h7 : n < 7
  · have hin : vp_in (nI n) 7 := vp_in_nI h7 (by omega)
    have hc : (nI n).toNatClampNeg = n := nI_clamp (by omega)
    have hne : ¬ nI n = 7 := fun e => absurd ((nI_eq (b := 7) (by omega) (by omega)).mp e) (by omega)
    have hlt : nI n < 7 := nI_lt (b := 7) h7 (by decide)
    unfold wpX_founder
    dsimp only
    refine br_t hlt ⟨hin, nm_r (e' := upd a n (-1)) (by rw [hc]) ⟨hin, nm_r (e' := upd b n (-1)) (by rw [hc]) ⟨hin, nm_r (e' := upd ls n ((1 : Int32) <<< (nI n &&& 31))) (by rw [hc]) (nm_r (nI_1 n) ?_)⟩⟩⟩
    unfold wpY_founder
    dsimp only
    refine br_f hne ⟨hin, nm_r (e' := upd a n (-1)) (by rw [hc]) ⟨hin, nm_r (e' := upd b n (-1)) (by rw [hc]) (nm_r (nI_1 n) ⟨nI_pred n, ?_⟩)⟩⟩
    refine ⟨n + 1, upd a n (-1), upd b n (-1), upd ls n ((1 : Int32) <<< (nI n &&& 31)), o, by omega, ?_, ?_, rfl⟩
    · intro i hi
      by_cases e : i = n
      · rw [e]; exact Or.inl ⟨pk_us, pk_us⟩
      · exact gi_Gup (by omega) (hG i (by omega))
    · rw [gi_ccF pk_us, gi_cc_upd n (Nat.le_refl n)]
  · have e : n = 7 := by omega
    have hge : ¬ nI n < 7 := nI_nlt (b := 7) (by omega) (by omega)
    have heq : nI n = 7 := by rw [e]; rfl
    unfold wpX_founder
    dsimp only
    refine br_f hge ?_
    unfold wpY_founder
    dsimp only
    exact br_t heq ⟨rfl, hR⟩
theorem i_vc_child {k : Nat} {u : SX} {v : SY} (I : i_Rel k u v) (hk : k + 5 ≤ 2560) (v1 : Int32) (v2 : Int32) : wpX_child (fun r u' => wpY_child (fun r' v' => r' = r ∧ i_Rel (k + 5) u' v') v v1 v2) u v1 v2 := by
  obtain ⟨n, a, b, ls, o, hn, hG, rfl, rfl⟩ := I
  have hP : ∀ i, i < n → gi_P a b i := fun i hi => gi_GP (hG i hi)
  have hR : i_Rel (k + 5) (nI n, nI (gi_cc a n), a, b, ls, o) (nI n, a, b, o) := ⟨n, a, b, ls, o, hn, hG, rfl, rfl⟩
  by_cases m1 : gi_mem v1 n
  · by_cases m2 : gi_mem v2 n
    · obtain ⟨i, hi, rfl⟩ := m1
      obtain ⟨j, hj, rfl⟩ := m2
      by_cases h7 : n < 7
      · have hin : vp_in (nI n) 7 := vp_in_nI h7 (by omega)
        have hini : vp_in (nI i) 7 := vp_in_nI (by omega) (by omega)
        have hinj : vp_in (nI j) 7 := vp_in_nI (by omega) (by omega)
        have hc : (nI n).toNatClampNeg = n := nI_clamp (by omega)
        have hci : (nI i).toNatClampNeg = i := nI_clamp (by omega)
        have hcj : (nI j).toNatClampNeg = j := nI_clamp (by omega)
        have hcc : gi_cc a n < 6 := gi_cc_s6 h7 hP
        have hne : ¬ nI n = 7 := fun e => absurd ((nI_eq (b := 7) (by omega) (by omega)).mp e) (by omega)
        have hge : ¬ (7 : Int32) ≤ nI n := nI_ge (b := 7) h7 (by decide)
        have hc6 : nI (gi_cc a n) < 6 := nI_lt (b := 6) hcc (by decide)
        have hn6 : ¬ nI (gi_cc a n) = 6 := fun e => absurd ((nI_eq (b := 6) (by omega) (by omega)).mp e) (by omega)
        unfold wpX_child
        dsimp only
        refine gi_xM1 hn hi (br_f gi_n10 (gi_xM1 hn hj (br_f gi_n10 (br_f hge (br_t hc6 ⟨hin, nm_r (e' := upd a n (nI i)) (by rw [hc]) ⟨hin, nm_r (e' := upd b n (nI j)) (by rw [hc]) ⟨hini, hinj, hin, nm_r (e' := upd ls n (((1 : Int32) <<< (nI n &&& 31) ||| ls i) ||| ls j)) (by rw [hc, hci, hcj]) (nm_r (nI_1 n) (nm_r (nI_1 _) ?_))⟩⟩⟩)))))
        unfold wpY_child
        dsimp only
        refine gi_yM1 hn hi (br_f gi_n10 (gi_yM1 hn hj (br_f gi_n10 (br_f hne (gi_yK hn hP (br_f hn6 ⟨hin, nm_r (e' := upd a n (nI i)) (by rw [hc]) ⟨hin, nm_r (e' := upd b n (nI j)) (by rw [hc]) (nm_r (nI_1 n) ⟨nI_pred n, ?_⟩)⟩⟩))))))
        refine ⟨n + 1, upd a n (nI i), upd b n (nI j), upd ls n (((1 : Int32) <<< (nI n &&& 31) ||| ls i) ||| ls j), o, by omega, ?_, ?_, rfl⟩
        · intro t ht
          by_cases e : t = n
          · rw [e]
            refine Or.inr ⟨i, j, hi, hj, pk_us, pk_us, ?_⟩
            rw [pk_us, pk_un (show i ≠ n by omega), pk_un (show j ≠ n by omega)]
          · exact gi_Gup (by omega) (hG t (by omega))
        · rw [gi_ccC (show ¬ upd a n (nI i) n = -1 by rw [pk_us]; exact gi_m1 (by omega)), gi_cc_upd n (Nat.le_refl n)]
      · have e : n = 7 := by omega
        have hge : (7 : Int32) ≤ nI n := nI_le (a := 7) (by omega) (by omega)
        have heq : nI n = 7 := by rw [e]; rfl
        unfold wpX_child
        dsimp only
        refine gi_xM1 hn hi (br_f gi_n10 (gi_xM1 hn hj (br_f gi_n10 (br_t hge ?_))))
        unfold wpY_child
        dsimp only
        exact gi_yM1 hn hi (br_f gi_n10 (gi_yM1 hn hj (br_f gi_n10 (br_t heq ⟨rfl, hR⟩))))
    · obtain ⟨i, hi, rfl⟩ := m1
      unfold wpX_child
      dsimp only
      refine gi_xM1 hn hi (br_f gi_n10 (gi_xM0 hn m2 (br_t rfl ?_)))
      unfold wpY_child
      dsimp only
      exact gi_yM1 hn hi (br_f gi_n10 (gi_yM0 hn m2 (br_t rfl ⟨rfl, hR⟩)))
  · unfold wpX_child
    dsimp only
    refine gi_xM0 hn m1 (br_t rfl ?_)
    unfold wpY_child
    dsimp only
    exact gi_yM0 hn m1 (br_t rfl ⟨rfl, hR⟩)
theorem i_vc_drop {k : Nat} {u : SX} {v : SY} (I : i_Rel k u v) (hk : k + 5 ≤ 2560) : wpX_drop (fun r u' => wpY_drop (fun r' v' => r' = r ∧ i_Rel (k + 5) u' v') v) u := by
  obtain ⟨n, a, b, ls, o, hn, hG, rfl, rfl⟩ := I
  have hP : ∀ i, i < n → gi_P a b i := fun i hi => gi_GP (hG i hi)
  have hR : i_Rel (k + 5) (nI n, nI (gi_cc a n), a, b, ls, o) (nI n, a, b, o) := ⟨n, a, b, ls, o, hn, hG, rfl, rfl⟩
  cases n with
  | zero =>
    unfold wpX_drop
    dsimp only
    refine br_t nI_0 ?_
    unfold wpY_drop
    dsimp only
    exact br_t nI_0 ⟨rfl, hR⟩
  | succ m =>
    have h0 : ¬ nI (m + 1) = 0 := nI_ne0 (by omega) (by omega)
    have hY : wpY_drop (fun r' v' => r' = nI m ∧ i_Rel (k + 5) (nI m, nI (gi_cc a m), a, b, ls, o) v') (nI (m + 1), a, b, o) := by
      unfold wpY_drop
      dsimp only
      exact br_f h0 (nm_r (nI_pred m) ⟨rfl, m, a, b, ls, o, by omega, fun i hi => hG i (by omega), rfl, rfl⟩)
    unfold wpX_drop
    dsimp only
    refine br_f h0 (nm_r (nI_pred m) ?_)
    by_cases hf : a m = -1
    · refine gi_xF1 (by omega) hf (br_f gi_n10 ?_)
      rw [gi_ccF hf]
      exact hY
    · refine gi_xF0 (by omega) hf (br_t rfl (nm_r (e' := nI (gi_cc a m)) (by rw [gi_ccC hf, nI_pred]) ?_))
      exact hY
theorem i_vc_members {k : Nat} {u : SX} {v : SY} (I : i_Rel k u v) (hk : k + 5 ≤ 2560) : wpX_members (fun r => wpY_members (fun r' => r' = r ∧ i_Rel (k + 5) u v) v) u := by
  obtain ⟨n, a, b, ls, o, hn, hG, rfl, rfl⟩ := I
  have hP : ∀ i, i < n → gi_P a b i := fun i hi => gi_GP (hG i hi)
  have hR : i_Rel (k + 5) (nI n, nI (gi_cc a n), a, b, ls, o) (nI n, a, b, o) := ⟨n, a, b, ls, o, hn, hG, rfl, rfl⟩
  show nI n = nI n ∧ _
  exact ⟨rfl, hR⟩
theorem i_vc_ways {k : Nat} {u : SX} {v : SY} (I : i_Rel k u v) (hk : k + 5 ≤ 2560) : wpX_ways (fun r => wpY_ways (fun r' => r' = r ∧ i_Rel (k + 5) u v) v) u := by
  obtain ⟨n, a, b, ls, o, hn, hG, rfl, rfl⟩ := I
  have hP : ∀ i, i < n → gi_P a b i := fun i hi => gi_GP (hG i hi)
  have hR : i_Rel (k + 5) (nI n, nI (gi_cc a n), a, b, ls, o) (nI n, a, b, o) := ⟨n, a, b, ls, o, hn, hG, rfl, rfl⟩
  exact gi_xW hn hP (gi_yW hn hP ⟨rfl, hR⟩)
theorem i_vc_inbred {k : Nat} {u : SX} {v : SY} (I : i_Rel k u v) (hk : k + 5 ≤ 2560) (v1 : Int32) : wpX_inbred (fun r u' => wpY_inbred (fun r' v' => r' = r ∧ i_Rel (k + 5) u' v') v v1) u v1 := by
  obtain ⟨n, a, b, ls, o, hn, hG, rfl, rfl⟩ := I
  have hP : ∀ i, i < n → gi_P a b i := fun i hi => gi_GP (hG i hi)
  have hR : i_Rel (k + 5) (nI n, nI (gi_cc a n), a, b, ls, o) (nI n, a, b, o) := ⟨n, a, b, ls, o, hn, hG, rfl, rfl⟩
  by_cases hm : gi_mem v1 n
  · obtain ⟨i, hi, rfl⟩ := hm
    exact gi_Xg_inbred hn hP hi (gi_Yg_inbred hn hP hi (gi_fin hn hG (gi_run_eq (fun w o c => rfl) _ _ _ _)))
  · exact gi_Xb_inbred hn hm (gi_Yb_inbred hn hm ⟨rfl, hR⟩)
theorem i_vc_two {k : Nat} {u : SX} {v : SY} (I : i_Rel k u v) (hk : k + 5 ≤ 2560) (v1 : Int32) (v2 : Int32) : wpX_two (fun r u' => wpY_two (fun r' v' => r' = r ∧ i_Rel (k + 5) u' v') v v1 v2) u v1 v2 := by
  obtain ⟨n, a, b, ls, o, hn, hG, rfl, rfl⟩ := I
  have hP : ∀ i, i < n → gi_P a b i := fun i hi => gi_GP (hG i hi)
  have hR : i_Rel (k + 5) (nI n, nI (gi_cc a n), a, b, ls, o) (nI n, a, b, o) := ⟨n, a, b, ls, o, hn, hG, rfl, rfl⟩
  by_cases hm : gi_mem v1 n ∧ gi_mem v2 n
  · obtain ⟨⟨i, hi, rfl⟩, ⟨j, hj, rfl⟩⟩ := hm
    exact gi_Xg_two hn hP hi hj (gi_Yg_two hn hP hi hj (gi_fin hn hG (gi_run_eq (fun w o c => gi_K2 _ i j c) _ _ _ _)))
  · exact gi_Xb_two hn hm (gi_Yb_two hn hm ⟨rfl, hR⟩)
theorem i_vc_three {k : Nat} {u : SX} {v : SY} (I : i_Rel k u v) (hk : k + 5 ≤ 2560) (v1 : Int32) (v2 : Int32) (v3 : Int32) : wpX_three (fun r u' => wpY_three (fun r' v' => r' = r ∧ i_Rel (k + 5) u' v') v v1 v2 v3) u v1 v2 v3 := by
  obtain ⟨n, a, b, ls, o, hn, hG, rfl, rfl⟩ := I
  have hP : ∀ i, i < n → gi_P a b i := fun i hi => gi_GP (hG i hi)
  have hR : i_Rel (k + 5) (nI n, nI (gi_cc a n), a, b, ls, o) (nI n, a, b, o) := ⟨n, a, b, ls, o, hn, hG, rfl, rfl⟩
  by_cases hm : gi_mem v1 n ∧ gi_mem v2 n ∧ gi_mem v3 n
  · obtain ⟨⟨i, hi, rfl⟩, ⟨j, hj, rfl⟩, ⟨k3, hk3, rfl⟩⟩ := hm
    exact gi_Xg_three hn hP hi hj hk3 (gi_Yg_three hn hP hi hj hk3 (gi_fin hn hG (gi_run_eq (fun w o c => gi_K3 _ i j k3 c) _ _ _ _)))
  · exact gi_Xb_three hn hm (gi_Yb_three hn hm ⟨rfl, hR⟩)
theorem i_vc_four {k : Nat} {u : SX} {v : SY} (I : i_Rel k u v) (hk : k + 5 ≤ 2560) (v1 : Int32) (v2 : Int32) (v3 : Int32) (v4 : Int32) : wpX_four (fun r u' => wpY_four (fun r' v' => r' = r ∧ i_Rel (k + 5) u' v') v v1 v2 v3 v4) u v1 v2 v3 v4 := by
  obtain ⟨n, a, b, ls, o, hn, hG, rfl, rfl⟩ := I
  have hP : ∀ i, i < n → gi_P a b i := fun i hi => gi_GP (hG i hi)
  have hR : i_Rel (k + 5) (nI n, nI (gi_cc a n), a, b, ls, o) (nI n, a, b, o) := ⟨n, a, b, ls, o, hn, hG, rfl, rfl⟩
  by_cases hm : gi_mem v1 n ∧ gi_mem v2 n ∧ gi_mem v3 n ∧ gi_mem v4 n
  · obtain ⟨⟨i, hi, rfl⟩, ⟨j, hj, rfl⟩, ⟨k3, hk3, rfl⟩, ⟨l, hl, rfl⟩⟩ := hm
    exact gi_Xg_four hn hP hi hj hk3 hl (gi_Yg_four hn hP hi hj hk3 hl (gi_fin hn hG (gi_run_eq (fun w o c => gi_K4 _ i j k3 l c) _ _ _ _)))
  · exact gi_Xb_four hn hm (gi_Yb_four hn hm ⟨rfl, hR⟩)
theorem i_vc_pairs {k : Nat} {u : SX} {v : SY} (I : i_Rel k u v) (hk : k + 5 ≤ 2560) (v1 : Int32) (v2 : Int32) (v3 : Int32) (v4 : Int32) : wpX_pairs (fun r u' => wpY_pairs (fun r' v' => r' = r ∧ i_Rel (k + 5) u' v') v v1 v2 v3 v4) u v1 v2 v3 v4 := by
  obtain ⟨n, a, b, ls, o, hn, hG, rfl, rfl⟩ := I
  have hP : ∀ i, i < n → gi_P a b i := fun i hi => gi_GP (hG i hi)
  have hR : i_Rel (k + 5) (nI n, nI (gi_cc a n), a, b, ls, o) (nI n, a, b, o) := ⟨n, a, b, ls, o, hn, hG, rfl, rfl⟩
  by_cases hm : gi_mem v1 n ∧ gi_mem v2 n ∧ gi_mem v3 n ∧ gi_mem v4 n
  · obtain ⟨⟨i, hi, rfl⟩, ⟨j, hj, rfl⟩, ⟨k3, hk3, rfl⟩, ⟨l, hl, rfl⟩⟩ := hm
    exact gi_Xg_pairs hn hP hi hj hk3 hl (gi_Yg_pairs hn hP hi hj hk3 hl (gi_fin hn hG (gi_run_eq (fun w o c => gi_Kp _ i j k3 l c) _ _ _ _)))
  · exact gi_Xb_pairs hn hm (gi_Yb_pairs hn hm ⟨rfl, hR⟩)
theorem i_vc_related {k : Nat} {u : SX} {v : SY} (I : i_Rel k u v) (hk : k + 5 ≤ 2560) (v1 : Int32) (v2 : Int32) : wpX_related (fun r u' => wpY_related (fun r' v' => r' = r ∧ i_Rel (k + 5) u' v') v v1 v2) u v1 v2 := by
  obtain ⟨n, a, b, ls, o, hn, hG, rfl, rfl⟩ := I
  have hP : ∀ i, i < n → gi_P a b i := fun i hi => gi_GP (hG i hi)
  have hR : i_Rel (k + 5) (nI n, nI (gi_cc a n), a, b, ls, o) (nI n, a, b, o) := ⟨n, a, b, ls, o, hn, hG, rfl, rfl⟩
  by_cases hm : gi_mem v1 n ∧ gi_mem v2 n
  · obtain ⟨⟨i, hi, rfl⟩, ⟨j, hj, rfl⟩⟩ := hm
    exact gi_Xg_related hn hP hi hj (gi_Yg_related hn hP hi hj (gi_fin hn hG (gi_run_eq (fun w o c => gi_Kr _ i j c) _ _ _ _)))
  · exact gi_Xb_related hn hm (gi_Yb_related hn hm ⟨rfl, hR⟩)
theorem i_vc_state {k : Nat} {u : SX} {v : SY} (I : i_Rel k u v) (hk : k + 5 ≤ 2560) (v1 : Int32) (v2 : Int32) (v3 : Int32) : wpX_state (fun r u' => wpY_state (fun r' v' => r' = r ∧ i_Rel (k + 5) u' v') v v1 v2 v3) u v1 v2 v3 := by
  obtain ⟨n, a, b, ls, o, hn, hG, rfl, rfl⟩ := I
  have hP : ∀ i, i < n → gi_P a b i := fun i hi => gi_GP (hG i hi)
  have hR : i_Rel (k + 5) (nI n, nI (gi_cc a n), a, b, ls, o) (nI n, a, b, o) := ⟨n, a, b, ls, o, hn, hG, rfl, rfl⟩
  by_cases hm : gi_mem v1 n ∧ gi_mem v2 n
  · obtain ⟨⟨i, hi, rfl⟩, ⟨j, hj, rfl⟩⟩ := hm
    by_cases hs : v3 < 1 ∨ ¬ v3 ≤ 9
    · exact gi_Xs_state hn hi hj hs (gi_Ys_state hn hi hj hs ⟨rfl, hR⟩)
    · have hs1 : ¬ v3 < 1 := fun e => hs (Or.inl e)
      have hs9 : v3 ≤ 9 := Classical.byContradiction fun e => hs (Or.inr e)
      by_cases hij : nI i = nI j
      · exact gi_Xq_state hn hi hj hs1 hs9 hij (gi_Yq_state hn hi hj hs1 hs9 hij ⟨rfl, hR⟩)
      · exact gi_Xg_state hn hP hi hj hs1 hs9 hij (gi_Yg_state hn hP hi hj hs1 hs9 hij (gi_fin hn hG (gi_run_eq (fun w o c => by rw [gi_sXY]) _ _ _ _)))
  · exact gi_Xb_state hn hm (gi_Yb_state hn hm ⟨rfl, hR⟩)
theorem i_vc_from {k : Nat} {u : SX} {v : SY} (I : i_Rel k u v) (hk : k + 5 ≤ 2560) (v1 : Int32) (v2 : Int32) : wpX_from (fun r u' => wpY_from (fun r' v' => r' = r ∧ i_Rel (k + 5) u' v') v v1 v2) u v1 v2 := by
  obtain ⟨n, a, b, ls, o, hn, hG, rfl, rfl⟩ := I
  have hP : ∀ i, i < n → gi_P a b i := fun i hi => gi_GP (hG i hi)
  have hR : i_Rel (k + 5) (nI n, nI (gi_cc a n), a, b, ls, o) (nI n, a, b, o) := ⟨n, a, b, ls, o, hn, hG, rfl, rfl⟩
  by_cases hm : gi_mem v1 n ∧ gi_mem v2 n
  · obtain ⟨⟨i, hi, rfl⟩, ⟨j, hj, rfl⟩⟩ := hm
    by_cases hf : a j = -1
    · refine gi_Xg_from hn hP hi hj hf (gi_Yg_from hn hP hi hj hf (gi_fin hn hG (gi_run_eq (fun w o c => ?_) _ _ _ _)))
      have hv := gi_layV n 0 w o (fun t ht => hP t (by omega)) (by omega) (fun t ht => absurd ht (by omega))
      have e := gi_Kf (o := gi_lay a b n 0 w o) (i := i) (f := j) (by omega) (hv (2 * i) (by omega)) (hv (2 * i + 1) (by omega)) c
      rw [← gi_2, ← gi_21] at e
      exact e
    · exact gi_Xn_from hn hP hi hj hf (gi_Yn_from hn hP hi hj hf ⟨rfl, hR⟩)
  · exact gi_Xb_from hn hm (gi_Yb_from hn hm ⟨rfl, hR⟩)
theorem i_vc_line {k : Nat} {u : SX} {v : SY} (I : i_Rel k u v) (hk : k + 5 ≤ 2560) (v1 : Int32) : wpX_line (fun r => wpY_line (fun r' => r' = r ∧ i_Rel (k + 5) u v) v v1) u v1 := by
  obtain ⟨n, a, b, ls, o, hn, hG, rfl, rfl⟩ := I
  have hP : ∀ i, i < n → gi_P a b i := fun i hi => gi_GP (hG i hi)
  have hR : i_Rel (k + 5) (nI n, nI (gi_cc a n), a, b, ls, o) (nI n, a, b, o) := ⟨n, a, b, ls, o, hn, hG, rfl, rfl⟩
  by_cases m1 : gi_mem v1 n
  · obtain ⟨i, hi, rfl⟩ := m1
    have hc : (nI i).toNatClampNeg = i := nI_clamp (by omega)
    unfold wpX_line
    dsimp only
    refine gi_xM1 hn hi (br_f gi_n10 ⟨vp_in_nI (by omega) (by omega), ?_⟩)
    rw [hc]
    unfold wpY_line
    dsimp only
    refine gi_yM1 hn hi (br_f gi_n10 (nm_e ⟨i + 1 + 1, ?_⟩))
    exact gi_yLn hn hG ⟨rfl, hR⟩ (i + 1) (by omega) _ (gi_LIi (by omega) (gi_self (hG i hi) (by omega)))
  · unfold wpX_line
    dsimp only
    refine gi_xM0 hn m1 (br_t rfl ?_)
    unfold wpY_line
    dsimp only
    exact gi_yM0 hn m1 (br_t rfl ⟨rfl, hR⟩)
end
