/-! the counts: each side's run over the ways -/
theorem gi_loop (W : Nat → Int32 → Int32 → (Nat → Int32) → Prop) (post : Int32 → (Nat → Int32) → Prop) (L : Nat → (Nat → Int32) → Nat → Int32) (K : (Nat → Int32) → Int32 → Int32) (T : Nat) (hx : ∀ m c o, post c o → W (m + 1) c (nI T) o) (hs : ∀ m c w o, w < T → W m (K (L w o) c) (nI (w + 1)) (L w o) → W (m + 1) c (nI w) o) : ∀ d w c o, w + d = T → post (gi_run L K d w c o).1 (gi_run L K d w c o).2 → W (d + 1) c (nI w) o := by
  intro d
  induction d with
  | zero =>
    intro w c o hw hp
    have e : w = T := by omega
    rw [e]
    exact hx 0 c o hp
  | succ d ih =>
    intro w c o hw hp
    exact hs (d + 1) c w o (by omega) (ih (w + 1) _ _ (by omega) hp)
theorem gi_inner (U : Nat → Int32 → Int32 → Prop) (f : Nat → Int32) (E : Nat) (Q : Int32 → Prop) (hx : ∀ m c, Q c → U (m + 1) c (nI E)) (hs : ∀ m c t, t < E → U m (c + f t) (nI (t + 1)) → U (m + 1) c (nI t)) : ∀ d t c, t + d = E → Q (gi_sm f d t c) → U (d + 1) c (nI t) := by
  intro d
  induction d with
  | zero =>
    intro t c ht hq
    have e : t = E := by omega
    rw [e]
    exact hx 0 c hq
  | succ d ih =>
    intro t c ht hq
    exact hs (d + 1) c t (by omega) (ih (t + 1) _ (by omega) hq)
section
variable {n : Nat} {a b o : Nat → Int32}
theorem gi_yi_two {post : Int32 → SY → Prop} {J : Int32 → Int32 → Int32 → (Nat → Int32) → (Nat → Int32) → (Nat → Int32) → Prop} {i j w : Nat} {x c : Int32} (hi7 : i < 7) (hj7 : j < 7) (hq : J (gi_sm (gi_f2 o i j) 4 0 c) (nI (w + 1)) (nI n) a b o) : ∃ m : Nat, wY_two_45 post J (nI i) (nI j) x (nI w) (nI n) a b o m c 0 := by
  refine ⟨4 + 1, gi_inner (fun m c t => wY_two_45 post J (nI i) (nI j) x (nI w) (nI n) a b o m c t) (gi_f2 o i j) 4 (fun c => J c (nI (w + 1)) (nI n) a b o) (fun m c h => br_t (by decide) (nm_r (nI_1 w) h)) ?_ 4 0 c (by omega) hq⟩
  intro m c t ht h
  refine br_f (nI_ge (b := 4) ht (by decide)) (gi_yG 0 hi7 (by omega) (by omega) (gi_yG 1 hj7 (by omega) (by omega) ?_))
  by_cases z : gi_at o i t 0 = gi_at o j t 1
  · have e : gi_f2 o i j t = 1 := gi_e1 z
    rw [e] at h
    exact br_t z (nm_e (nm_r (nI_1 t) h))
  · have e : gi_f2 o i j t = 0 := gi_e0 z
    rw [e, Int32.add_zero] at h
    exact br_f z (nm_r (nI_1 t) h)
theorem gi_yi_three {post : Int32 → SY → Prop} {J : Int32 → Int32 → Int32 → (Nat → Int32) → (Nat → Int32) → (Nat → Int32) → Prop} {i j k w : Nat} {x c : Int32} (hi7 : i < 7) (hj7 : j < 7) (hk7 : k < 7) (hq : J (gi_sm (gi_f3 o i j k) 8 0 c) (nI (w + 1)) (nI n) a b o) : ∃ m : Nat, wY_three_54 post J (nI i) (nI j) (nI k) x (nI w) (nI n) a b o m c 0 := by
  refine ⟨8 + 1, gi_inner (fun m c t => wY_three_54 post J (nI i) (nI j) (nI k) x (nI w) (nI n) a b o m c t) (gi_f3 o i j k) 8 (fun c => J c (nI (w + 1)) (nI n) a b o) (fun m c h => br_t (by decide) (nm_r (nI_1 w) h)) ?_ 8 0 c (by omega) hq⟩
  intro m c t ht h
  refine br_f (nI_ge (b := 8) ht (by decide)) (gi_yG 0 hi7 (by omega) (by omega) (gi_yG 1 hj7 (by omega) (by omega) ?_))
  by_cases z : gi_at o i t 0 = gi_at o j t 1
  · refine br_t z (gi_yG 2 hk7 (by omega) (by omega) ?_)
    by_cases y : gi_at o i t 0 = gi_at o k t 2
    · have e : gi_f3 o i j k t = 1 := by unfold gi_f3; rw [gi_e1 z, gi_e1 y]; decide
      rw [e] at h
      exact br_t y (nm_e (nm_r (nI_1 t) h))
    · have e : gi_f3 o i j k t = 0 := by unfold gi_f3; rw [gi_e1 z, gi_e0 y]; decide
      rw [e, Int32.add_zero] at h
      exact br_f y (nm_r (nI_1 t) h)
  · have e : gi_f3 o i j k t = 0 := by unfold gi_f3; rw [gi_e0 z, Int32.zero_mul]
    rw [e, Int32.add_zero] at h
    exact br_f z (nm_r (nI_1 t) h)
theorem gi_yi_four {post : Int32 → SY → Prop} {J : Int32 → Int32 → Int32 → (Nat → Int32) → (Nat → Int32) → (Nat → Int32) → Prop} {i j k l w : Nat} {x c : Int32} (hi7 : i < 7) (hj7 : j < 7) (hk7 : k < 7) (hl7 : l < 7) (hq : J (gi_sm (gi_f4 o i j k l) 16 0 c) (nI (w + 1)) (nI n) a b o) : ∃ m : Nat, wY_four_63 post J (nI i) (nI j) (nI k) (nI l) x (nI w) (nI n) a b o m c 0 := by
  refine ⟨16 + 1, gi_inner (fun m c t => wY_four_63 post J (nI i) (nI j) (nI k) (nI l) x (nI w) (nI n) a b o m c t) (gi_f4 o i j k l) 16 (fun c => J c (nI (w + 1)) (nI n) a b o) (fun m c h => br_t (by decide) (nm_r (nI_1 w) h)) ?_ 16 0 c (by omega) hq⟩
  intro m c t ht h
  refine br_f (nI_ge (b := 16) ht (by decide)) (gi_yG 0 hi7 (by omega) (by omega) (gi_yG 1 hj7 (by omega) (by omega) ?_))
  by_cases z : gi_at o i t 0 = gi_at o j t 1
  · refine br_t z (gi_yG 2 hk7 (by omega) (by omega) ?_)
    by_cases y : gi_at o i t 0 = gi_at o k t 2
    · refine br_t y (gi_yG 3 hl7 (by omega) (by omega) ?_)
      by_cases x : gi_at o i t 0 = gi_at o l t 3
      · have e : gi_f4 o i j k l t = 1 := by unfold gi_f4; rw [gi_e1 z, gi_e1 y, gi_e1 x]; decide
        rw [e] at h
        exact br_t x (nm_e (nm_r (nI_1 t) h))
      · have e : gi_f4 o i j k l t = 0 := by unfold gi_f4; rw [gi_e1 z, gi_e1 y, gi_e0 x]; decide
        rw [e, Int32.add_zero] at h
        exact br_f x (nm_r (nI_1 t) h)
    · have e : gi_f4 o i j k l t = 0 := by unfold gi_f4; rw [gi_e0 y, Int32.mul_zero, Int32.zero_mul]
      rw [e, Int32.add_zero] at h
      exact br_f y (nm_r (nI_1 t) h)
  · have e : gi_f4 o i j k l t = 0 := by unfold gi_f4; rw [gi_e0 z, Int32.zero_mul, Int32.zero_mul]
    rw [e, Int32.add_zero] at h
    exact br_f z (nm_r (nI_1 t) h)
theorem gi_yi_pairs {post : Int32 → SY → Prop} {J : Int32 → Int32 → Int32 → (Nat → Int32) → (Nat → Int32) → (Nat → Int32) → Prop} {i j k l w : Nat} {x c : Int32} (hi7 : i < 7) (hj7 : j < 7) (hk7 : k < 7) (hl7 : l < 7) (hq : J (gi_sm (gi_fp o i j k l) 16 0 c) (nI (w + 1)) (nI n) a b o) : ∃ m : Nat, wY_pairs_63 post J (nI i) (nI j) (nI k) (nI l) x (nI w) (nI n) a b o m c 0 := by
  refine ⟨16 + 1, gi_inner (fun m c t => wY_pairs_63 post J (nI i) (nI j) (nI k) (nI l) x (nI w) (nI n) a b o m c t) (gi_fp o i j k l) 16 (fun c => J c (nI (w + 1)) (nI n) a b o) (fun m c h => br_t (by decide) (nm_r (nI_1 w) h)) ?_ 16 0 c (by omega) hq⟩
  intro m c t ht h
  refine br_f (nI_ge (b := 16) ht (by decide)) (gi_yG 0 hi7 (by omega) (by omega) (gi_yG 1 hj7 (by omega) (by omega) ?_))
  by_cases z : gi_at o i t 0 = gi_at o j t 1
  · refine br_t z (gi_yG 2 hk7 (by omega) (by omega) (gi_yG 3 hl7 (by omega) (by omega) ?_))
    by_cases y : gi_at o k t 2 = gi_at o l t 3
    · have e : gi_fp o i j k l t = 1 := by unfold gi_fp; rw [gi_e1 z, gi_e1 y]; decide
      rw [e] at h
      exact br_t y (nm_e (nm_r (nI_1 t) h))
    · have e : gi_fp o i j k l t = 0 := by unfold gi_fp; rw [gi_e0 y, Int32.mul_zero]
      rw [e, Int32.add_zero] at h
      exact br_f y (nm_r (nI_1 t) h)
  · have e : gi_fp o i j k l t = 0 := by unfold gi_fp; rw [gi_e0 z, Int32.zero_mul]
    rw [e, Int32.add_zero] at h
    exact br_f z (nm_r (nI_1 t) h)
theorem gi_yi_from {post : Int32 → SY → Prop} {J : Int32 → Int32 → Int32 → (Nat → Int32) → (Nat → Int32) → (Nat → Int32) → Prop} {i j w : Nat} {x c : Int32} (hi7 : i < 7) (hj7 : j < 7) (hq : J (gi_sm (gi_ff o i j) 2 0 c) (nI (w + 1)) (nI n) a b o) : ∃ m : Nat, wY_from_57 post J (nI i) (nI j) x (nI w) (nI n) a b o m c 0 := by
  refine ⟨2 + 1, gi_inner (fun m c t => wY_from_57 post J (nI i) (nI j) x (nI w) (nI n) a b o m c t) (gi_ff o i j) 2 (fun c => J c (nI (w + 1)) (nI n) a b o) (fun m c h => br_t (by decide) (nm_r (nI_1 w) h)) ?_ 2 0 c (by omega) hq⟩
  intro m c t ht h
  refine br_f (nI_ge (b := 2) ht (by decide)) ?_
  rw [gi_2r, nI_clamp (by omega)]
  refine ⟨vp_in_nI (by omega) (by omega), gi_n20, ?_⟩
  by_cases z : o (2 * i + t) / 2 = nI j
  · have e : gi_ff o i j t = 1 := gi_e1 z
    rw [e] at h
    exact br_t z (nm_e (nm_r (nI_1 t) h))
  · have e : gi_ff o i j t = 0 := gi_e0 z
    rw [e, Int32.add_zero] at h
    exact br_f z (nm_r (nI_1 t) h)
end
