/-! what one way adds: the component's sums are the reference's -/
def gi_X2 (o : Nat → Int32) (i j : Nat) : Int32 := 0 + gi_cop o (o (2 * i)) j + gi_cop o (o (2 * i + 1)) j
def gi_X3 (o : Nat → Int32) (i j k : Nat) : Int32 := 0 + gi_cop o (o (2 * i)) j * gi_cop o (o (2 * i)) k + gi_cop o (o (2 * i + 1)) j * gi_cop o (o (2 * i + 1)) k
def gi_X4 (o : Nat → Int32) (i j k l : Nat) : Int32 := 0 + gi_cop o (o (2 * i)) j * gi_cop o (o (2 * i)) k * gi_cop o (o (2 * i)) l + gi_cop o (o (2 * i + 1)) j * gi_cop o (o (2 * i + 1)) k * gi_cop o (o (2 * i + 1)) l
def gi_at (o : Nat → Int32) (i c t : Nat) : Int32 := o (2 * i + c / 2 ^ t % 2)
def gi_f2 (o : Nat → Int32) (i j c : Nat) : Int32 := gi_e (gi_at o i c 0) (gi_at o j c 1)
def gi_f3 (o : Nat → Int32) (i j k c : Nat) : Int32 := gi_e (gi_at o i c 0) (gi_at o j c 1) * gi_e (gi_at o i c 0) (gi_at o k c 2)
def gi_f4 (o : Nat → Int32) (i j k l c : Nat) : Int32 := gi_e (gi_at o i c 0) (gi_at o j c 1) * gi_e (gi_at o i c 0) (gi_at o k c 2) * gi_e (gi_at o i c 0) (gi_at o l c 3)
def gi_fp (o : Nat → Int32) (i j k l c : Nat) : Int32 := gi_e (gi_at o i c 0) (gi_at o j c 1) * gi_e (gi_at o k c 2) (gi_at o l c 3)
theorem gi_r2 (c p q r s : Int32) : c + (0 + (p + q) + (r + s)) = c + p + r + q + s := by grind
theorem gi_r3 (c p0 p1 q0 q1 r0 r1 s0 s1 : Int32) : c + (0 + (p0 + p1) * (q0 + q1) + (r0 + r1) * (s0 + s1)) = c + p0 * q0 + r0 * s0 + p1 * q0 + r1 * s0 + p0 * q1 + r0 * s1 + p1 * q1 + r1 * s1 := by grind
theorem gi_r4 (c p0 p1 q0 q1 t0 t1 r0 r1 s0 s1 u0 u1 : Int32) : c + (0 + (p0 + p1) * (q0 + q1) * (t0 + t1) + (r0 + r1) * (s0 + s1) * (u0 + u1)) = c + p0 * q0 * t0 + r0 * s0 * u0 + p1 * q0 * t0 + r1 * s0 * u0 + p0 * q1 * t0 + r0 * s1 * u0 + p1 * q1 * t0 + r1 * s1 * u0 + p0 * q0 * t1 + r0 * s0 * u1 + p1 * q0 * t1 + r1 * s0 * u1 + p0 * q1 * t1 + r0 * s1 * u1 + p1 * q1 * t1 + r1 * s1 * u1 := by grind
theorem gi_rp (c p q r s a b d e : Int32) : c + (0 + (p + q) + (r + s)) * (0 + (a + b) + (d + e)) = c + p * a + r * a + q * a + s * a + p * d + r * d + q * d + s * d + p * b + r * b + q * b + s * b + p * e + r * e + q * e + s * e := by grind
theorem gi_K2 (o : Nat → Int32) (i j : Nat) (c : Int32) : c + gi_X2 o i j = gi_sm (gi_f2 o i j) 4 0 c := gi_r2 c _ _ _ _
theorem gi_K3 (o : Nat → Int32) (i j k : Nat) (c : Int32) : c + gi_X3 o i j k = gi_sm (gi_f3 o i j k) 8 0 c := gi_r3 c _ _ _ _ _ _ _ _
theorem gi_K4 (o : Nat → Int32) (i j k l : Nat) (c : Int32) : c + gi_X4 o i j k l = gi_sm (gi_f4 o i j k l) 16 0 c := gi_r4 c _ _ _ _ _ _ _ _ _ _ _ _
theorem gi_Kp (o : Nat → Int32) (i j k l : Nat) (c : Int32) : c + gi_X2 o i j * gi_X2 o k l = gi_sm (gi_fp o i j k l) 16 0 c := gi_rp c _ _ _ _ _ _ _ _
/-- related: some of the four are alike -/
abbrev gi_sh (o : Nat → Int32) (i g j : Nat) : Prop := o (2 * i + g) = o (2 * j) ∨ o (2 * i + g) = o (2 * j + 1)
def gi_su (w x y z : Int32) : Int32 := 0 + (gi_e w y + gi_e w z) + (gi_e x y + gi_e x z)
theorem gi_e01 (x y : Int32) : gi_e x y = 0 ∨ gi_e x y = 1 := by
  by_cases h : x = y
  · exact Or.inr (gi_e1 h)
  · exact Or.inl (gi_e0 h)
theorem gi_suI (w x y z : Int32) : gi_su w x y z ≤ 0 ↔ ¬ ((w = y ∨ w = z) ∨ (x = y ∨ x = z)) := by
  unfold gi_su
  by_cases h1 : w = y
  · rw [gi_e1 h1]
    refine ⟨fun h => ?_, fun h => absurd (Or.inl (Or.inl h1)) h⟩
    exfalso; revert h
    rcases gi_e01 w z with e2 | e2 <;> rcases gi_e01 x y with e3 | e3 <;> rcases gi_e01 x z with e4 | e4 <;> rw [e2, e3, e4] <;> decide
  · rw [gi_e0 h1]
    by_cases h2 : w = z
    · rw [gi_e1 h2]
      refine ⟨fun h => ?_, fun h => absurd (Or.inl (Or.inr h2)) h⟩
      exfalso; revert h
      rcases gi_e01 x y with e3 | e3 <;> rcases gi_e01 x z with e4 | e4 <;> rw [e3, e4] <;> decide
    · rw [gi_e0 h2]
      by_cases h3 : x = y
      · rw [gi_e1 h3]
        refine ⟨fun h => ?_, fun h => absurd (Or.inr (Or.inl h3)) h⟩
        exfalso; revert h
        rcases gi_e01 x z with e4 | e4 <;> rw [e4] <;> decide
      · rw [gi_e0 h3]
        by_cases h4 : x = z
        · rw [gi_e1 h4]
          refine ⟨fun h => ?_, fun h => absurd (Or.inr (Or.inr h4)) h⟩
          exact absurd h (by decide)
        · rw [gi_e0 h4]
          refine ⟨fun _ h => ?_, fun _ => by decide⟩
          rcases h with (h | h) | (h | h)
          · exact h1 h
          · exact h2 h
          · exact h3 h
          · exact h4 h
theorem gi_X2s (o : Nat → Int32) (i j : Nat) : gi_X2 o i j = gi_su (o (2 * i)) (o (2 * i + 1)) (o (2 * j)) (o (2 * j + 1)) := rfl
theorem gi_Kr (o : Nat → Int32) (i j : Nat) (c : Int32) : (if gi_X2 o i j ≤ 0 then c else c + 1) = (if gi_sh o i 0 j ∨ gi_sh o i 1 j then c + 1 else c) := by
  have h : gi_X2 o i j ≤ 0 ↔ ¬ (gi_sh o i 0 j ∨ gi_sh o i 1 j) := gi_suI (o (2 * i)) (o (2 * i + 1)) (o (2 * j)) (o (2 * j + 1))
  by_cases z : gi_X2 o i j ≤ 0
  · rw [if_pos z, if_neg (h.mp z)]
  · rw [if_neg z, if_pos]
    exact Classical.byContradiction fun y => z (h.mpr y)
/-- the state of two members -/
def gi_sX (w x y z : Int32) : Int32 :=
  if w = x then (if y = z then (if gi_su w x y z ≤ 0 then 2 else 1) else (if gi_su w x y z ≤ 0 then 4 else 3))
  else if y = z then (if gi_su w x y z ≤ 0 then 6 else 5)
  else 9 - gi_su w x y z
def gi_sY (w x y z : Int32) : Int32 :=
  if w = x then (if y = z then (if w = y ∨ w = z then 1 else 2) else (if w = y ∨ w = z then 3 else 4))
  else if y = z then (if w = y ∨ w = z then 5 else if x = y ∨ x = z then 5 else 6)
  else if w = y ∨ w = z then (if x = y ∨ x = z then 7 else 8) else if x = y ∨ x = z then 8 else 9
theorem gi_s9 {w x y z : Int32} (hw : ¬ w = x) (hy : ¬ y = z) : 9 - gi_su w x y z = (if w = y ∨ w = z then (if x = y ∨ x = z then 7 else 8) else if x = y ∨ x = z then 8 else 9) := by
  unfold gi_su
  by_cases h1 : w = y
  · have h2 : ¬ w = z := fun e => hy (h1.symm.trans e)
    have h3 : ¬ x = y := fun e => hw (h1.trans e.symm)
    rw [gi_e1 h1, gi_e0 h2, gi_e0 h3, if_pos (Or.inl h1)]
    by_cases h4 : x = z
    · rw [gi_e1 h4, if_pos (Or.inr h4)]; decide
    · rw [gi_e0 h4, if_neg (fun e => e.elim h3 h4)]; decide
  · by_cases h2 : w = z
    · have h4 : ¬ x = z := fun e => hw (h2.trans e.symm)
      rw [gi_e0 h1, gi_e1 h2, gi_e0 h4, if_pos (Or.inr h2)]
      by_cases h3 : x = y
      · rw [gi_e1 h3, if_pos (Or.inl h3)]; decide
      · rw [gi_e0 h3, if_neg (fun e => e.elim h3 h4)]; decide
    · rw [gi_e0 h1, gi_e0 h2, if_neg (fun e => e.elim h1 h2)]
      by_cases h3 : x = y
      · have h4 : ¬ x = z := fun e => hy (h3.symm.trans e)
        rw [gi_e1 h3, gi_e0 h4, if_pos (Or.inl h3)]; decide
      · by_cases h4 : x = z
        · rw [gi_e0 h3, gi_e1 h4, if_pos (Or.inr h4)]; decide
        · rw [gi_e0 h3, gi_e0 h4, if_neg (fun e => e.elim h3 h4)]; decide
theorem gi_s2 {w x y z : Int32} {p q : Int32} (h : w = x) : (if gi_su w x y z ≤ 0 then p else q) = (if w = y ∨ w = z then q else p) := by
  have hh := gi_suI w x y z
  by_cases e : gi_su w x y z ≤ 0
  · rw [if_pos e, if_neg (fun k => hh.mp e (Or.inl k))]
  · rw [if_neg e, if_pos]
    apply Classical.byContradiction
    intro k
    refine e (hh.mpr (fun t => ?_))
    rcases t with t | t
    · exact k t
    · rw [← h] at t; exact k t
theorem gi_s5 {w x y z : Int32} {p q : Int32} : (if gi_su w x y z ≤ 0 then p else q) = (if w = y ∨ w = z then q else if x = y ∨ x = z then q else p) := by
  have hh := gi_suI w x y z
  by_cases k1 : w = y ∨ w = z
  · rw [if_pos k1, if_neg (fun e => hh.mp e (Or.inl k1))]
  · rw [if_neg k1]
    by_cases k2 : x = y ∨ x = z
    · rw [if_pos k2, if_neg (fun e => hh.mp e (Or.inr k2))]
    · rw [if_neg k2, if_pos (hh.mpr (fun t => t.elim k1 k2))]
theorem gi_sXY (w x y z : Int32) : gi_sX w x y z = gi_sY w x y z := by
  unfold gi_sX gi_sY
  by_cases h1 : w = x
  · rw [if_pos h1, if_pos h1]
    by_cases h5 : y = z
    · rw [if_pos h5, if_pos h5, gi_s2 h1]
    · rw [if_neg h5, if_neg h5, gi_s2 h1]
  · rw [if_neg h1, if_neg h1]
    by_cases h5 : y = z
    · rw [if_pos h5, if_pos h5, gi_s5]
    · rw [if_neg h5, if_neg h5, gi_s9 h1 h5]
/-- from: a gene comes from one of the founder's two -/
theorem gi_frN : ∀ g, g < 14 → ∀ f, f < 7 → gi_e (nI (2 * f)) (nI g) + gi_e (nI (2 * f + 1)) (nI g) = gi_e (nI g / 2) (nI f) := by decide +kernel
def gi_ff (o : Nat → Int32) (i f g : Nat) : Int32 := gi_e (o (2 * i + g) / 2) (nI f)
theorem gi_Kf {o : Nat → Int32} {i f : Nat} (hf : f < 7) (h0 : ∃ g : Nat, g < 14 ∧ o (2 * i) = nI g) (h1 : ∃ g : Nat, g < 14 ∧ o (2 * i + 1) = nI g) (c : Int32) : c + (gi_cop o (nI (2 * f)) i + gi_cop o (nI (2 * f + 1)) i) = gi_sm (gi_ff o i f) 2 0 c := by
  obtain ⟨g0, z0, e0⟩ := h0
  obtain ⟨g1, z1, e1⟩ := h1
  show c + ((gi_e (nI (2 * f)) (o (2 * i)) + gi_e (nI (2 * f)) (o (2 * i + 1))) + (gi_e (nI (2 * f + 1)) (o (2 * i)) + gi_e (nI (2 * f + 1)) (o (2 * i + 1)))) = c + gi_e (o (2 * i) / 2) (nI f) + gi_e (o (2 * i + 1) / 2) (nI f)
  rw [e0, e1, ← gi_frN g0 z0 f hf, ← gi_frN g1 z1 f hf]
  generalize gi_e (nI (2 * f)) (nI g0) = a1
  generalize gi_e (nI (2 * f)) (nI g1) = a2
  generalize gi_e (nI (2 * f + 1)) (nI g0) = a3
  generalize gi_e (nI (2 * f + 1)) (nI g1) = a4
  grind
