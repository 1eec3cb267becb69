/-! the line: the set of a member and all above it, by its bits -/
theorem gi_bt1 : ∀ s, s < 32 → bt 1 s = decide (s = 0) := by decide +kernel
theorem gi_b1 (j : Nat) (hj : j < 32) {t : Nat} (ht : t < 32) : bt ((1 : Int32) <<< (nI j &&& 31)) t = decide (t = j) := by
  rw [b_shl j hj _ ht, gi_bt1 (t - j) (by omega)]
  by_cases h : t = j
  · rw [decide_eq_true h, decide_eq_true (show j ≤ t by omega), decide_eq_true (show t - j = 0 by omega)]; rfl
  · by_cases h2 : j ≤ t
    · rw [decide_eq_false h, decide_eq_false (show ¬ t - j = 0 by omega), Bool.and_false]
    · rw [decide_eq_false h, decide_eq_false h2, Bool.false_and]
theorem gi_tb (x : Int32) (k : Nat) (hk : k < 31) : (x >>> (nI k &&& 31)) &&& 1 = 1 ↔ bt x k = true := by
  have h := b_sshr k (by omega) x (i := 0) (by omega)
  rw [if_pos (by omega), Nat.add_zero] at h
  rw [← h, pk_and _ 1 (by decide)]
  unfold bt
  rw [← BitVec.testBit_toNat, Nat.testBit_zero, decide_eq_true_iff]
  generalize (x >>> (nI k &&& 31)).toBitVec.toNat = m
  show nI (m % 2) = 1 ↔ m % 2 = 1
  rcases Nat.mod_two_eq_zero_or_one m with z | z
  · rw [z]; exact ⟨fun e => absurd e (by decide), fun e => absurd e (by decide)⟩
  · rw [z]; exact ⟨fun _ => rfl, fun _ => by decide⟩
theorem gi_self {a b ls : Nat → Int32} {i : Nat} (h : gi_G a b ls i) (hi : i < 32) : bt (ls i) i = true := by
  rcases h with ⟨_, h⟩ | ⟨p, q, _, _, _, _, h⟩
  · rw [h, gi_b1 i hi hi]; exact decide_eq_true rfl
  · rw [h, b_or, b_or, gi_b1 i hi hi, decide_eq_true rfl]; rfl
def gi_LI (ls : Nat → Int32) (i k : Nat) (x : Int32) : Prop :=
  (∀ t, t < 32 → bt x t = true → bt (ls i) t = true) ∧
  (∀ t, t < 32 → bt (ls i) t = true → bt x t = true ∨ ∃ j, j < k ∧ bt x j = true ∧ bt (ls j) t = true) ∧
  (∀ j, j < k → bt x j = true → ∀ t, t < 32 → bt (ls j) t = true → bt (ls i) t = true)
theorem gi_LIi {ls : Nat → Int32} {i : Nat} (hi : i < 32) (h : bt (ls i) i = true) : gi_LI ls i (i + 1) ((1 : Int32) <<< (nI i &&& 31)) := by
  have hb : ∀ t, t < 32 → bt ((1 : Int32) <<< (nI i &&& 31)) t = true → t = i := by
    intro t ht z
    rw [gi_b1 i hi ht] at z
    exact of_decide_eq_true z
  refine ⟨fun t ht z => ?_, fun t ht z => ?_, fun j hj z t ht y => ?_⟩
  · rw [hb t ht z]; exact h
  · refine Or.inr ⟨i, by omega, ?_, z⟩
    rw [gi_b1 i hi hi]; exact decide_eq_true rfl
  · rw [hb j (by omega) z] at y; exact y
theorem gi_LI0 {a b ls : Nat → Int32} {i m : Nat} {x : Int32} (hG : gi_G a b ls m) (hm : m < 32) (h : gi_LI ls i (m + 1) x) (hc : ¬ bt x m = true ∨ a m = -1) : gi_LI ls i m x := by
  obtain ⟨h1, h2, h3⟩ := h
  refine ⟨h1, fun t ht z => ?_, fun j hj => h3 j (by omega)⟩
  rcases h2 t ht z with y | ⟨j, hj, y1, y2⟩
  · exact Or.inl y
  · by_cases e : j = m
    · rw [e] at y1 y2
      rcases hc with c | c
      · exact absurd y1 c
      · rcases hG with ⟨_, g⟩ | ⟨p, q, hp, _, g, _⟩
        · rw [g, gi_b1 m hm ht] at y2
          have w : t = m := of_decide_eq_true y2
          rw [w]; exact Or.inl y1
        · exact absurd (g.symm.trans c) (gi_m1 (by omega))
    · exact Or.inr ⟨j, by omega, y1, y2⟩
theorem gi_LI1 {ls : Nat → Int32} {i m p q : Nat} {x : Int32} (hp : p < m) (hq : q < m) (hm : m < 32) (g : ls m = ((1 : Int32) <<< (nI m &&& 31) ||| ls p) ||| ls q) (sp : bt (ls p) p = true) (sq : bt (ls q) q = true) (h : gi_LI ls i (m + 1) x) (hx : bt x m = true) : gi_LI ls i m (x ||| ((1 : Int32) <<< (nI p &&& 31) ||| (1 : Int32) <<< (nI q &&& 31))) := by
  have hb : ∀ t, t < 32 → (bt (x ||| ((1 : Int32) <<< (nI p &&& 31) ||| (1 : Int32) <<< (nI q &&& 31))) t = true ↔ bt x t = true ∨ t = p ∨ t = q) := by
    intro t ht
    rw [b_or, b_or, gi_b1 p (by omega) ht, gi_b1 q (by omega) ht]
    simp only [Bool.or_eq_true, decide_eq_true_eq]
  have hl : ∀ t, t < 32 → (bt (ls m) t = true ↔ (t = m ∨ bt (ls p) t = true) ∨ bt (ls q) t = true) := by
    intro t ht
    rw [g, b_or, b_or, gi_b1 m hm ht]
    simp only [Bool.or_eq_true, decide_eq_true_eq]
  obtain ⟨h1, h2, h3⟩ := h
  refine ⟨fun t ht z => ?_, fun t ht z => ?_, fun j hj z t ht y => ?_⟩
  · rcases (hb t ht).mp z with z | z | z
    · exact h1 t ht z
    · rw [z]; exact h3 m (by omega) hx p (by omega) ((hl p (by omega)).mpr (Or.inl (Or.inr sp)))
    · rw [z]; exact h3 m (by omega) hx q (by omega) ((hl q (by omega)).mpr (Or.inr sq))
  · rcases h2 t ht z with y | ⟨j, hj, y1, y2⟩
    · exact Or.inl ((hb t ht).mpr (Or.inl y))
    · by_cases e : j = m
      · rw [e] at y2
        rcases (hl t ht).mp y2 with (w | w) | w
        · exact Or.inl ((hb t ht).mpr (Or.inl (by rw [w]; exact hx)))
        · exact Or.inr ⟨p, hp, (hb p (by omega)).mpr (Or.inr (Or.inl rfl)), w⟩
        · exact Or.inr ⟨q, hq, (hb q (by omega)).mpr (Or.inr (Or.inr rfl)), w⟩
      · exact Or.inr ⟨j, by omega, (hb j (by omega)).mpr (Or.inl y1), y2⟩
  · rcases (hb j (by omega)).mp z with z | z | z
    · exact h3 j (by omega) z t ht y
    · rw [z] at y; exact h3 m (by omega) hx t ht ((hl t ht).mpr (Or.inl (Or.inr y)))
    · rw [z] at y; exact h3 m (by omega) hx t ht ((hl t ht).mpr (Or.inr y))
theorem gi_LIe {ls : Nat → Int32} {i : Nat} {x : Int32} (h : gi_LI ls i 0 x) : x = ls i := by
  apply b_ext
  intro t ht
  cases hx : bt x t with
  | true => exact (h.1 t ht hx).symm
  | false =>
    cases hy : bt (ls i) t with
    | false => rfl
    | true =>
      rcases h.2.1 t ht hy with z | ⟨j, hj, _⟩
      · exact hx.symm.trans z
      · omega
