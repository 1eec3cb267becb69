/-! the counting methods of both sides, from good arguments and from bad ones -/
section
variable {n : Nat} {a b ls o : Nat → Int32}
theorem gi_Xg_inbred {post : Int32 → SX → Prop} {i : Nat} (hn : n ≤ 7) (hP : ∀ i, i < n → gi_P a b i) (hi : i < n) (hp : post (gi_run (gi_lay a b n 0) (fun o c => if o (2 * i) = o (2 * i + 1) then c + 1 else c) (gi_T a n) 0 0 o).1 (nI n, nI (gi_cc a n), a, b, ls, (gi_run (gi_lay a b n 0) (fun o c => if o (2 * i) = o (2 * i + 1) then c + 1 else c) (gi_T a n) 0 0 o).2)) : wpX_inbred post (nI n, nI (gi_cc a n), a, b, ls, o) (nI i) := by
  have hi7 : i < 7 := by omega
  have hT : gi_T a n ≤ 4096 := gi_Tle hn hP
  unfold wpX_inbred
  dsimp only
  refine gi_xM1 hn hi (br_f gi_n10 (gi_xW hn hP ⟨gi_T a n + 1, ?_⟩))
  refine gi_loop (fun m c w o => wX_inbred_20 post (nI i) (nI (gi_T a n)) m c w (nI n) (nI (gi_cc a n)) a b ls o) (fun c o => post c (nI n, nI (gi_cc a n), a, b, ls, o)) (gi_lay a b n 0) (fun o c => if o (2 * i) = o (2 * i + 1) then c + 1 else c) (gi_T a n) (fun m c o hp => br_t (nI_le (Nat.le_refl _) (by omega)) hp) ?_ (gi_T a n) 0 0 o (by omega) hp
  · intro m c w o hw h
    refine br_f (nI_ge hw (by omega)) (gi_xL hn hP (by omega) ?_)
    try dsimp only at h
    by_cases z : gi_lay a b n 0 w o (2 * i) = gi_lay a b n 0 w o (2 * i + 1)
    · rw [if_pos z] at h; exact gi_xO1 hi7 z (br_f gi_n10 (nm_e (nm_r (nI_1 w) h)))
    · rw [if_neg z] at h; exact gi_xO0 hi7 z (br_t rfl (nm_r (nI_1 w) h))
theorem gi_Xb_inbred {post : Int32 → SX → Prop} {p0 : Int32} (hn : n ≤ 7) (h : ¬ (gi_mem p0 n)) (hp : post (-1) (nI n, nI (gi_cc a n), a, b, ls, o)) : wpX_inbred post (nI n, nI (gi_cc a n), a, b, ls, o) p0 := by
  unfold wpX_inbred
  dsimp only
  by_cases m0 : gi_mem p0 n
  · exact absurd m0 h
  · exact gi_xM0 hn m0 (br_t rfl hp)
theorem gi_Yg_inbred {post : Int32 → SY → Prop} {i : Nat} (hn : n ≤ 7) (hP : ∀ i, i < n → gi_P a b i) (hi : i < n) (hp : post (gi_run (gi_lay a b n 0) (fun o c => if o (2 * i) = o (2 * i + 1) then c + 1 else c) (gi_T a n) 0 0 o).1 (nI n, a, b, (gi_run (gi_lay a b n 0) (fun o c => if o (2 * i) = o (2 * i + 1) then c + 1 else c) (gi_T a n) 0 0 o).2)) : wpY_inbred post (nI n, a, b, o) (nI i) := by
  have hi7 : i < 7 := by omega
  have hT : gi_T a n ≤ 4096 := gi_Tle hn hP
  unfold wpY_inbred
  dsimp only
  refine gi_yM1 hn hi (br_f gi_n10 (gi_yW hn hP ⟨gi_T a n + 1, ?_⟩))
  refine gi_loop (fun m c w o => wY_inbred_20 post (nI i) (nI (gi_T a n)) m c w (nI n) a b o) (fun c o => post c (nI n, a, b, o)) (gi_lay a b n 0) (fun o c => if o (2 * i) = o (2 * i + 1) then c + 1 else c) (gi_T a n) (fun m c o hp => br_t (nI_le (Nat.le_refl _) (by omega)) hp) ?_ (gi_T a n) 0 0 o (by omega) hp
  · intro m c w o hw h
    refine br_f (nI_ge hw (by omega)) (gi_yL hn hP (by omega) ?_)
    try dsimp only at h
    show _ ∧ _
    refine ⟨gi_i2 hi7, gi_i3 hi7, ?_⟩
    rw [gi_c2 hi7, gi_c3 hi7]
    by_cases z : gi_lay a b n 0 w o (2 * i) = gi_lay a b n 0 w o (2 * i + 1)
    · rw [if_pos z] at h; exact br_t z (nm_e (nm_r (nI_1 w) h))
    · rw [if_neg z] at h; exact br_f z (nm_r (nI_1 w) h)
theorem gi_Yb_inbred {post : Int32 → SY → Prop} {p0 : Int32} (hn : n ≤ 7) (h : ¬ (gi_mem p0 n)) (hp : post (-1) (nI n, a, b, o)) : wpY_inbred post (nI n, a, b, o) p0 := by
  unfold wpY_inbred
  dsimp only
  by_cases m0 : gi_mem p0 n
  · exact absurd m0 h
  · exact gi_yM0 hn m0 (br_t rfl hp)
theorem gi_Xg_two {post : Int32 → SX → Prop} {i j : Nat} (hn : n ≤ 7) (hP : ∀ i, i < n → gi_P a b i) (hi : i < n) (hj : j < n) (hp : post (gi_run (gi_lay a b n 0) (fun o c => c + gi_X2 o i j) (gi_T a n) 0 0 o).1 (nI n, nI (gi_cc a n), a, b, ls, (gi_run (gi_lay a b n 0) (fun o c => c + gi_X2 o i j) (gi_T a n) 0 0 o).2)) : wpX_two post (nI n, nI (gi_cc a n), a, b, ls, o) (nI i) (nI j) := by
  have hi7 : i < 7 := by omega
  have hj7 : j < 7 := by omega
  have hT : gi_T a n ≤ 4096 := gi_Tle hn hP
  unfold wpX_two
  dsimp only
  refine gi_xM1 hn hi (br_f gi_n10 (gi_xM1 hn hj (br_f gi_n10 (gi_xW hn hP ⟨gi_T a n + 1, ?_⟩))))
  refine gi_loop (fun m c w o => wX_two_29 post (nI i) (nI j) (nI (gi_T a n)) m c w (nI n) (nI (gi_cc a n)) a b ls o) (fun c o => post c (nI n, nI (gi_cc a n), a, b, ls, o)) (gi_lay a b n 0) (fun o c => c + gi_X2 o i j) (gi_T a n) (fun m c o hp => br_t (nI_le (Nat.le_refl _) (by omega)) hp) ?_ (gi_T a n) 0 0 o (by omega) hp
  · intro m c w o hw h
    refine br_f (nI_ge hw (by omega)) (gi_xL hn hP (by omega) ?_)
    exact gi_x2 hi7 hj7 (nm_e (nm_r (nI_1 w) h))
theorem gi_Xb_two {post : Int32 → SX → Prop} {p0 p1 : Int32} (hn : n ≤ 7) (h : ¬ (gi_mem p0 n ∧ gi_mem p1 n)) (hp : post (-1) (nI n, nI (gi_cc a n), a, b, ls, o)) : wpX_two post (nI n, nI (gi_cc a n), a, b, ls, o) p0 p1 := by
  unfold wpX_two
  dsimp only
  by_cases m0 : gi_mem p0 n
  · by_cases m1 : gi_mem p1 n
    · exact absurd ⟨m0, m1⟩ h
    · obtain ⟨j0, hj0, rfl⟩ := m0; exact gi_xM1 hn hj0 (br_f gi_n10 (gi_xM0 hn m1 (br_t rfl hp)))
  · exact gi_xM0 hn m0 (br_t rfl hp)
theorem gi_Yg_two {post : Int32 → SY → Prop} {i j : Nat} (hn : n ≤ 7) (hP : ∀ i, i < n → gi_P a b i) (hi : i < n) (hj : j < n) (hp : post (gi_run (gi_lay a b n 0) (fun o c => gi_sm (gi_f2 o i j) 4 0 c) (gi_T a n) 0 0 o).1 (nI n, a, b, (gi_run (gi_lay a b n 0) (fun o c => gi_sm (gi_f2 o i j) 4 0 c) (gi_T a n) 0 0 o).2)) : wpY_two post (nI n, a, b, o) (nI i) (nI j) := by
  have hi7 : i < 7 := by omega
  have hj7 : j < 7 := by omega
  have hT : gi_T a n ≤ 4096 := gi_Tle hn hP
  unfold wpY_two
  dsimp only
  refine gi_yM1 hn hi (br_f gi_n10 (gi_yM1 hn hj (br_f gi_n10 (gi_yW hn hP ⟨gi_T a n + 1, ?_⟩))))
  refine gi_loop (fun m c w o => wY_two_29 post (nI i) (nI j) (nI (gi_T a n)) m c w (nI n) a b o) (fun c o => post c (nI n, a, b, o)) (gi_lay a b n 0) (fun o c => gi_sm (gi_f2 o i j) 4 0 c) (gi_T a n) (fun m c o hp => br_t (nI_le (Nat.le_refl _) (by omega)) hp) ?_ (gi_T a n) 0 0 o (by omega) hp
  · intro m c w o hw h
    refine br_f (nI_ge hw (by omega)) (gi_yL hn hP (by omega) ?_)
    exact gi_yi_two hi7 hj7 h
theorem gi_Yb_two {post : Int32 → SY → Prop} {p0 p1 : Int32} (hn : n ≤ 7) (h : ¬ (gi_mem p0 n ∧ gi_mem p1 n)) (hp : post (-1) (nI n, a, b, o)) : wpY_two post (nI n, a, b, o) p0 p1 := by
  unfold wpY_two
  dsimp only
  by_cases m0 : gi_mem p0 n
  · by_cases m1 : gi_mem p1 n
    · exact absurd ⟨m0, m1⟩ h
    · obtain ⟨j0, hj0, rfl⟩ := m0; exact gi_yM1 hn hj0 (br_f gi_n10 (gi_yM0 hn m1 (br_t rfl hp)))
  · exact gi_yM0 hn m0 (br_t rfl hp)
theorem gi_Xg_three {post : Int32 → SX → Prop} {i j k : Nat} (hn : n ≤ 7) (hP : ∀ i, i < n → gi_P a b i) (hi : i < n) (hj : j < n) (hk : k < n) (hp : post (gi_run (gi_lay a b n 0) (fun o c => c + gi_X3 o i j k) (gi_T a n) 0 0 o).1 (nI n, nI (gi_cc a n), a, b, ls, (gi_run (gi_lay a b n 0) (fun o c => c + gi_X3 o i j k) (gi_T a n) 0 0 o).2)) : wpX_three post (nI n, nI (gi_cc a n), a, b, ls, o) (nI i) (nI j) (nI k) := by
  have hi7 : i < 7 := by omega
  have hj7 : j < 7 := by omega
  have hk7 : k < 7 := by omega
  have hT : gi_T a n ≤ 4096 := gi_Tle hn hP
  unfold wpX_three
  dsimp only
  refine gi_xM1 hn hi (br_f gi_n10 (gi_xM1 hn hj (br_f gi_n10 (gi_xM1 hn hk (br_f gi_n10 (gi_xW hn hP ⟨gi_T a n + 1, ?_⟩))))))
  refine gi_loop (fun m c w o => wX_three_38 post (nI i) (nI j) (nI k) (nI (gi_T a n)) m c w (nI n) (nI (gi_cc a n)) a b ls o) (fun c o => post c (nI n, nI (gi_cc a n), a, b, ls, o)) (gi_lay a b n 0) (fun o c => c + gi_X3 o i j k) (gi_T a n) (fun m c o hp => br_t (nI_le (Nat.le_refl _) (by omega)) hp) ?_ (gi_T a n) 0 0 o (by omega) hp
  · intro m c w o hw h
    refine br_f (nI_ge hw (by omega)) (gi_xL hn hP (by omega) ?_)
    exact gi_x3 hi7 hj7 hk7 (nm_e (nm_r (nI_1 w) h))
theorem gi_Xb_three {post : Int32 → SX → Prop} {p0 p1 p2 : Int32} (hn : n ≤ 7) (h : ¬ (gi_mem p0 n ∧ gi_mem p1 n ∧ gi_mem p2 n)) (hp : post (-1) (nI n, nI (gi_cc a n), a, b, ls, o)) : wpX_three post (nI n, nI (gi_cc a n), a, b, ls, o) p0 p1 p2 := by
  unfold wpX_three
  dsimp only
  by_cases m0 : gi_mem p0 n
  · by_cases m1 : gi_mem p1 n
    · by_cases m2 : gi_mem p2 n
      · exact absurd ⟨m0, m1, m2⟩ h
      · obtain ⟨j0, hj0, rfl⟩ := m0; obtain ⟨j1, hj1, rfl⟩ := m1; exact gi_xM1 hn hj0 (br_f gi_n10 (gi_xM1 hn hj1 (br_f gi_n10 (gi_xM0 hn m2 (br_t rfl hp)))))
    · obtain ⟨j0, hj0, rfl⟩ := m0; exact gi_xM1 hn hj0 (br_f gi_n10 (gi_xM0 hn m1 (br_t rfl hp)))
  · exact gi_xM0 hn m0 (br_t rfl hp)
theorem gi_Yg_three {post : Int32 → SY → Prop} {i j k : Nat} (hn : n ≤ 7) (hP : ∀ i, i < n → gi_P a b i) (hi : i < n) (hj : j < n) (hk : k < n) (hp : post (gi_run (gi_lay a b n 0) (fun o c => gi_sm (gi_f3 o i j k) 8 0 c) (gi_T a n) 0 0 o).1 (nI n, a, b, (gi_run (gi_lay a b n 0) (fun o c => gi_sm (gi_f3 o i j k) 8 0 c) (gi_T a n) 0 0 o).2)) : wpY_three post (nI n, a, b, o) (nI i) (nI j) (nI k) := by
  have hi7 : i < 7 := by omega
  have hj7 : j < 7 := by omega
  have hk7 : k < 7 := by omega
  have hT : gi_T a n ≤ 4096 := gi_Tle hn hP
  unfold wpY_three
  dsimp only
  refine gi_yM1 hn hi (br_f gi_n10 (gi_yM1 hn hj (br_f gi_n10 (gi_yM1 hn hk (br_f gi_n10 (gi_yW hn hP ⟨gi_T a n + 1, ?_⟩))))))
  refine gi_loop (fun m c w o => wY_three_38 post (nI i) (nI j) (nI k) (nI (gi_T a n)) m c w (nI n) a b o) (fun c o => post c (nI n, a, b, o)) (gi_lay a b n 0) (fun o c => gi_sm (gi_f3 o i j k) 8 0 c) (gi_T a n) (fun m c o hp => br_t (nI_le (Nat.le_refl _) (by omega)) hp) ?_ (gi_T a n) 0 0 o (by omega) hp
  · intro m c w o hw h
    refine br_f (nI_ge hw (by omega)) (gi_yL hn hP (by omega) ?_)
    exact gi_yi_three hi7 hj7 hk7 h
theorem gi_Yb_three {post : Int32 → SY → Prop} {p0 p1 p2 : Int32} (hn : n ≤ 7) (h : ¬ (gi_mem p0 n ∧ gi_mem p1 n ∧ gi_mem p2 n)) (hp : post (-1) (nI n, a, b, o)) : wpY_three post (nI n, a, b, o) p0 p1 p2 := by
  unfold wpY_three
  dsimp only
  by_cases m0 : gi_mem p0 n
  · by_cases m1 : gi_mem p1 n
    · by_cases m2 : gi_mem p2 n
      · exact absurd ⟨m0, m1, m2⟩ h
      · obtain ⟨j0, hj0, rfl⟩ := m0; obtain ⟨j1, hj1, rfl⟩ := m1; exact gi_yM1 hn hj0 (br_f gi_n10 (gi_yM1 hn hj1 (br_f gi_n10 (gi_yM0 hn m2 (br_t rfl hp)))))
    · obtain ⟨j0, hj0, rfl⟩ := m0; exact gi_yM1 hn hj0 (br_f gi_n10 (gi_yM0 hn m1 (br_t rfl hp)))
  · exact gi_yM0 hn m0 (br_t rfl hp)
theorem gi_Xg_four {post : Int32 → SX → Prop} {i j k l : Nat} (hn : n ≤ 7) (hP : ∀ i, i < n → gi_P a b i) (hi : i < n) (hj : j < n) (hk : k < n) (hl : l < n) (hp : post (gi_run (gi_lay a b n 0) (fun o c => c + gi_X4 o i j k l) (gi_T a n) 0 0 o).1 (nI n, nI (gi_cc a n), a, b, ls, (gi_run (gi_lay a b n 0) (fun o c => c + gi_X4 o i j k l) (gi_T a n) 0 0 o).2)) : wpX_four post (nI n, nI (gi_cc a n), a, b, ls, o) (nI i) (nI j) (nI k) (nI l) := by
  have hi7 : i < 7 := by omega
  have hj7 : j < 7 := by omega
  have hk7 : k < 7 := by omega
  have hl7 : l < 7 := by omega
  have hT : gi_T a n ≤ 4096 := gi_Tle hn hP
  unfold wpX_four
  dsimp only
  refine gi_xM1 hn hi (br_f gi_n10 (gi_xM1 hn hj (br_f gi_n10 (gi_xM1 hn hk (br_f gi_n10 (gi_xM1 hn hl (br_f gi_n10 (gi_xW hn hP ⟨gi_T a n + 1, ?_⟩))))))))
  refine gi_loop (fun m c w o => wX_four_47 post (nI i) (nI j) (nI k) (nI l) (nI (gi_T a n)) m c w (nI n) (nI (gi_cc a n)) a b ls o) (fun c o => post c (nI n, nI (gi_cc a n), a, b, ls, o)) (gi_lay a b n 0) (fun o c => c + gi_X4 o i j k l) (gi_T a n) (fun m c o hp => br_t (nI_le (Nat.le_refl _) (by omega)) hp) ?_ (gi_T a n) 0 0 o (by omega) hp
  · intro m c w o hw h
    refine br_f (nI_ge hw (by omega)) (gi_xL hn hP (by omega) ?_)
    exact gi_x4 hi7 hj7 hk7 hl7 (nm_e (nm_r (nI_1 w) h))
theorem gi_Xb_four {post : Int32 → SX → Prop} {p0 p1 p2 p3 : Int32} (hn : n ≤ 7) (h : ¬ (gi_mem p0 n ∧ gi_mem p1 n ∧ gi_mem p2 n ∧ gi_mem p3 n)) (hp : post (-1) (nI n, nI (gi_cc a n), a, b, ls, o)) : wpX_four post (nI n, nI (gi_cc a n), a, b, ls, o) p0 p1 p2 p3 := by
  unfold wpX_four
  dsimp only
  by_cases m0 : gi_mem p0 n
  · by_cases m1 : gi_mem p1 n
    · by_cases m2 : gi_mem p2 n
      · by_cases m3 : gi_mem p3 n
        · exact absurd ⟨m0, m1, m2, m3⟩ h
        · obtain ⟨j0, hj0, rfl⟩ := m0; obtain ⟨j1, hj1, rfl⟩ := m1; obtain ⟨j2, hj2, rfl⟩ := m2; exact gi_xM1 hn hj0 (br_f gi_n10 (gi_xM1 hn hj1 (br_f gi_n10 (gi_xM1 hn hj2 (br_f gi_n10 (gi_xM0 hn m3 (br_t rfl hp)))))))
      · obtain ⟨j0, hj0, rfl⟩ := m0; obtain ⟨j1, hj1, rfl⟩ := m1; exact gi_xM1 hn hj0 (br_f gi_n10 (gi_xM1 hn hj1 (br_f gi_n10 (gi_xM0 hn m2 (br_t rfl hp)))))
    · obtain ⟨j0, hj0, rfl⟩ := m0; exact gi_xM1 hn hj0 (br_f gi_n10 (gi_xM0 hn m1 (br_t rfl hp)))
  · exact gi_xM0 hn m0 (br_t rfl hp)
theorem gi_Yg_four {post : Int32 → SY → Prop} {i j k l : Nat} (hn : n ≤ 7) (hP : ∀ i, i < n → gi_P a b i) (hi : i < n) (hj : j < n) (hk : k < n) (hl : l < n) (hp : post (gi_run (gi_lay a b n 0) (fun o c => gi_sm (gi_f4 o i j k l) 16 0 c) (gi_T a n) 0 0 o).1 (nI n, a, b, (gi_run (gi_lay a b n 0) (fun o c => gi_sm (gi_f4 o i j k l) 16 0 c) (gi_T a n) 0 0 o).2)) : wpY_four post (nI n, a, b, o) (nI i) (nI j) (nI k) (nI l) := by
  have hi7 : i < 7 := by omega
  have hj7 : j < 7 := by omega
  have hk7 : k < 7 := by omega
  have hl7 : l < 7 := by omega
  have hT : gi_T a n ≤ 4096 := gi_Tle hn hP
  unfold wpY_four
  dsimp only
  refine gi_yM1 hn hi (br_f gi_n10 (gi_yM1 hn hj (br_f gi_n10 (gi_yM1 hn hk (br_f gi_n10 (gi_yM1 hn hl (br_f gi_n10 (gi_yW hn hP ⟨gi_T a n + 1, ?_⟩))))))))
  refine gi_loop (fun m c w o => wY_four_47 post (nI i) (nI j) (nI k) (nI l) (nI (gi_T a n)) m c w (nI n) a b o) (fun c o => post c (nI n, a, b, o)) (gi_lay a b n 0) (fun o c => gi_sm (gi_f4 o i j k l) 16 0 c) (gi_T a n) (fun m c o hp => br_t (nI_le (Nat.le_refl _) (by omega)) hp) ?_ (gi_T a n) 0 0 o (by omega) hp
  · intro m c w o hw h
    refine br_f (nI_ge hw (by omega)) (gi_yL hn hP (by omega) ?_)
    exact gi_yi_four hi7 hj7 hk7 hl7 h
theorem gi_Yb_four {post : Int32 → SY → Prop} {p0 p1 p2 p3 : Int32} (hn : n ≤ 7) (h : ¬ (gi_mem p0 n ∧ gi_mem p1 n ∧ gi_mem p2 n ∧ gi_mem p3 n)) (hp : post (-1) (nI n, a, b, o)) : wpY_four post (nI n, a, b, o) p0 p1 p2 p3 := by
  unfold wpY_four
  dsimp only
  by_cases m0 : gi_mem p0 n
  · by_cases m1 : gi_mem p1 n
    · by_cases m2 : gi_mem p2 n
      · by_cases m3 : gi_mem p3 n
        · exact absurd ⟨m0, m1, m2, m3⟩ h
        · obtain ⟨j0, hj0, rfl⟩ := m0; obtain ⟨j1, hj1, rfl⟩ := m1; obtain ⟨j2, hj2, rfl⟩ := m2; exact gi_yM1 hn hj0 (br_f gi_n10 (gi_yM1 hn hj1 (br_f gi_n10 (gi_yM1 hn hj2 (br_f gi_n10 (gi_yM0 hn m3 (br_t rfl hp)))))))
      · obtain ⟨j0, hj0, rfl⟩ := m0; obtain ⟨j1, hj1, rfl⟩ := m1; exact gi_yM1 hn hj0 (br_f gi_n10 (gi_yM1 hn hj1 (br_f gi_n10 (gi_yM0 hn m2 (br_t rfl hp)))))
    · obtain ⟨j0, hj0, rfl⟩ := m0; exact gi_yM1 hn hj0 (br_f gi_n10 (gi_yM0 hn m1 (br_t rfl hp)))
  · exact gi_yM0 hn m0 (br_t rfl hp)
theorem gi_Xg_pairs {post : Int32 → SX → Prop} {i j k l : Nat} (hn : n ≤ 7) (hP : ∀ i, i < n → gi_P a b i) (hi : i < n) (hj : j < n) (hk : k < n) (hl : l < n) (hp : post (gi_run (gi_lay a b n 0) (fun o c => c + gi_X2 o i j * gi_X2 o k l) (gi_T a n) 0 0 o).1 (nI n, nI (gi_cc a n), a, b, ls, (gi_run (gi_lay a b n 0) (fun o c => c + gi_X2 o i j * gi_X2 o k l) (gi_T a n) 0 0 o).2)) : wpX_pairs post (nI n, nI (gi_cc a n), a, b, ls, o) (nI i) (nI j) (nI k) (nI l) := by
  have hi7 : i < 7 := by omega
  have hj7 : j < 7 := by omega
  have hk7 : k < 7 := by omega
  have hl7 : l < 7 := by omega
  have hT : gi_T a n ≤ 4096 := gi_Tle hn hP
  unfold wpX_pairs
  dsimp only
  refine gi_xM1 hn hi (br_f gi_n10 (gi_xM1 hn hj (br_f gi_n10 (gi_xM1 hn hk (br_f gi_n10 (gi_xM1 hn hl (br_f gi_n10 (gi_xW hn hP ⟨gi_T a n + 1, ?_⟩))))))))
  refine gi_loop (fun m c w o => wX_pairs_47 post (nI i) (nI j) (nI k) (nI l) (nI (gi_T a n)) m c w (nI n) (nI (gi_cc a n)) a b ls o) (fun c o => post c (nI n, nI (gi_cc a n), a, b, ls, o)) (gi_lay a b n 0) (fun o c => c + gi_X2 o i j * gi_X2 o k l) (gi_T a n) (fun m c o hp => br_t (nI_le (Nat.le_refl _) (by omega)) hp) ?_ (gi_T a n) 0 0 o (by omega) hp
  · intro m c w o hw h
    refine br_f (nI_ge hw (by omega)) (gi_xL hn hP (by omega) ?_)
    exact gi_x2 hi7 hj7 (gi_x2 hk7 hl7 (nm_e (nm_r (nI_1 w) h)))
theorem gi_Xb_pairs {post : Int32 → SX → Prop} {p0 p1 p2 p3 : Int32} (hn : n ≤ 7) (h : ¬ (gi_mem p0 n ∧ gi_mem p1 n ∧ gi_mem p2 n ∧ gi_mem p3 n)) (hp : post (-1) (nI n, nI (gi_cc a n), a, b, ls, o)) : wpX_pairs post (nI n, nI (gi_cc a n), a, b, ls, o) p0 p1 p2 p3 := by
  unfold wpX_pairs
  dsimp only
  by_cases m0 : gi_mem p0 n
  · by_cases m1 : gi_mem p1 n
    · by_cases m2 : gi_mem p2 n
      · by_cases m3 : gi_mem p3 n
        · exact absurd ⟨m0, m1, m2, m3⟩ h
        · obtain ⟨j0, hj0, rfl⟩ := m0; obtain ⟨j1, hj1, rfl⟩ := m1; obtain ⟨j2, hj2, rfl⟩ := m2; exact gi_xM1 hn hj0 (br_f gi_n10 (gi_xM1 hn hj1 (br_f gi_n10 (gi_xM1 hn hj2 (br_f gi_n10 (gi_xM0 hn m3 (br_t rfl hp)))))))
      · obtain ⟨j0, hj0, rfl⟩ := m0; obtain ⟨j1, hj1, rfl⟩ := m1; exact gi_xM1 hn hj0 (br_f gi_n10 (gi_xM1 hn hj1 (br_f gi_n10 (gi_xM0 hn m2 (br_t rfl hp)))))
    · obtain ⟨j0, hj0, rfl⟩ := m0; exact gi_xM1 hn hj0 (br_f gi_n10 (gi_xM0 hn m1 (br_t rfl hp)))
  · exact gi_xM0 hn m0 (br_t rfl hp)
theorem gi_Yg_pairs {post : Int32 → SY → Prop} {i j k l : Nat} (hn : n ≤ 7) (hP : ∀ i, i < n → gi_P a b i) (hi : i < n) (hj : j < n) (hk : k < n) (hl : l < n) (hp : post (gi_run (gi_lay a b n 0) (fun o c => gi_sm (gi_fp o i j k l) 16 0 c) (gi_T a n) 0 0 o).1 (nI n, a, b, (gi_run (gi_lay a b n 0) (fun o c => gi_sm (gi_fp o i j k l) 16 0 c) (gi_T a n) 0 0 o).2)) : wpY_pairs post (nI n, a, b, o) (nI i) (nI j) (nI k) (nI l) := by
  have hi7 : i < 7 := by omega
  have hj7 : j < 7 := by omega
  have hk7 : k < 7 := by omega
  have hl7 : l < 7 := by omega
  have hT : gi_T a n ≤ 4096 := gi_Tle hn hP
  unfold wpY_pairs
  dsimp only
  refine gi_yM1 hn hi (br_f gi_n10 (gi_yM1 hn hj (br_f gi_n10 (gi_yM1 hn hk (br_f gi_n10 (gi_yM1 hn hl (br_f gi_n10 (gi_yW hn hP ⟨gi_T a n + 1, ?_⟩))))))))
  refine gi_loop (fun m c w o => wY_pairs_47 post (nI i) (nI j) (nI k) (nI l) (nI (gi_T a n)) m c w (nI n) a b o) (fun c o => post c (nI n, a, b, o)) (gi_lay a b n 0) (fun o c => gi_sm (gi_fp o i j k l) 16 0 c) (gi_T a n) (fun m c o hp => br_t (nI_le (Nat.le_refl _) (by omega)) hp) ?_ (gi_T a n) 0 0 o (by omega) hp
  · intro m c w o hw h
    refine br_f (nI_ge hw (by omega)) (gi_yL hn hP (by omega) ?_)
    exact gi_yi_pairs hi7 hj7 hk7 hl7 h
theorem gi_Yb_pairs {post : Int32 → SY → Prop} {p0 p1 p2 p3 : Int32} (hn : n ≤ 7) (h : ¬ (gi_mem p0 n ∧ gi_mem p1 n ∧ gi_mem p2 n ∧ gi_mem p3 n)) (hp : post (-1) (nI n, a, b, o)) : wpY_pairs post (nI n, a, b, o) p0 p1 p2 p3 := by
  unfold wpY_pairs
  dsimp only
  by_cases m0 : gi_mem p0 n
  · by_cases m1 : gi_mem p1 n
    · by_cases m2 : gi_mem p2 n
      · by_cases m3 : gi_mem p3 n
        · exact absurd ⟨m0, m1, m2, m3⟩ h
        · obtain ⟨j0, hj0, rfl⟩ := m0; obtain ⟨j1, hj1, rfl⟩ := m1; obtain ⟨j2, hj2, rfl⟩ := m2; exact gi_yM1 hn hj0 (br_f gi_n10 (gi_yM1 hn hj1 (br_f gi_n10 (gi_yM1 hn hj2 (br_f gi_n10 (gi_yM0 hn m3 (br_t rfl hp)))))))
      · obtain ⟨j0, hj0, rfl⟩ := m0; obtain ⟨j1, hj1, rfl⟩ := m1; exact gi_yM1 hn hj0 (br_f gi_n10 (gi_yM1 hn hj1 (br_f gi_n10 (gi_yM0 hn m2 (br_t rfl hp)))))
    · obtain ⟨j0, hj0, rfl⟩ := m0; exact gi_yM1 hn hj0 (br_f gi_n10 (gi_yM0 hn m1 (br_t rfl hp)))
  · exact gi_yM0 hn m0 (br_t rfl hp)
theorem gi_Xg_state {post : Int32 → SX → Prop} {i j : Nat} {s : Int32} (hn : n ≤ 7) (hP : ∀ i, i < n → gi_P a b i) (hi : i < n) (hj : j < n) (hs1 : ¬ s < 1) (hs9 : s ≤ 9) (hij : ¬ nI i = nI j) (hp : post (gi_run (gi_lay a b n 0) (fun o c => if gi_sX (o (2 * i)) (o (2 * i + 1)) (o (2 * j)) (o (2 * j + 1)) = s then c + 1 else c) (gi_T a n) 0 0 o).1 (nI n, nI (gi_cc a n), a, b, ls, (gi_run (gi_lay a b n 0) (fun o c => if gi_sX (o (2 * i)) (o (2 * i + 1)) (o (2 * j)) (o (2 * j + 1)) = s then c + 1 else c) (gi_T a n) 0 0 o).2)) : wpX_state post (nI n, nI (gi_cc a n), a, b, ls, o) (nI i) (nI j) s := by
  have hi7 : i < 7 := by omega
  have hj7 : j < 7 := by omega
  have hT : gi_T a n ≤ 4096 := gi_Tle hn hP
  unfold wpX_state
  dsimp only
  refine gi_xM1 hn hi (br_f gi_n10 (gi_xM1 hn hj (br_f gi_n10 (br_f hs1 (br_t hs9 (br_f hij (gi_xW hn hP ⟨gi_T a n + 1, ?_⟩)))))))
  refine gi_loop (fun m c w o => wX_state_51 post (nI i) (nI j) s (nI (gi_T a n)) m c w (nI n) (nI (gi_cc a n)) a b ls o) (fun c o => post c (nI n, nI (gi_cc a n), a, b, ls, o)) (gi_lay a b n 0) (fun o c => if gi_sX (o (2 * i)) (o (2 * i + 1)) (o (2 * j)) (o (2 * j + 1)) = s then c + 1 else c) (gi_T a n) (fun m c o hp => br_t (nI_le (Nat.le_refl _) (by omega)) hp) ?_ (gi_T a n) 0 0 o (by omega) hp
  · intro m c w o hw h
    refine br_f (nI_ge hw (by omega)) (gi_xL hn hP (by omega) ?_)
    refine gi_xS hi7 hj7 ?_
    try dsimp only at h
    by_cases z : gi_sX (gi_lay a b n 0 w o (2 * i)) (gi_lay a b n 0 w o (2 * i + 1)) (gi_lay a b n 0 w o (2 * j)) (gi_lay a b n 0 w o (2 * j + 1)) = s
    · rw [if_pos z] at h; exact br_t z (nm_e (nm_r (nI_1 w) h))
    · rw [if_neg z] at h; exact br_f z (nm_r (nI_1 w) h)
theorem gi_Xb_state {post : Int32 → SX → Prop} {p0 p1 p9 : Int32} (hn : n ≤ 7) (h : ¬ (gi_mem p0 n ∧ gi_mem p1 n)) (hp : post (-1) (nI n, nI (gi_cc a n), a, b, ls, o)) : wpX_state post (nI n, nI (gi_cc a n), a, b, ls, o) p0 p1 p9 := by
  unfold wpX_state
  dsimp only
  by_cases m0 : gi_mem p0 n
  · by_cases m1 : gi_mem p1 n
    · exact absurd ⟨m0, m1⟩ h
    · obtain ⟨j0, hj0, rfl⟩ := m0; exact gi_xM1 hn hj0 (br_f gi_n10 (gi_xM0 hn m1 (br_t rfl hp)))
  · exact gi_xM0 hn m0 (br_t rfl hp)
theorem gi_Xs_state {post : Int32 → SX → Prop} {i j : Nat} {s : Int32} (hn : n ≤ 7) (hi : i < n) (hj : j < n) (hs : s < 1 ∨ ¬ s ≤ 9) (hp : post (-1) (nI n, nI (gi_cc a n), a, b, ls, o)) : wpX_state post (nI n, nI (gi_cc a n), a, b, ls, o) (nI i) (nI j) s := by
  unfold wpX_state
  dsimp only
  refine gi_xM1 hn hi (br_f gi_n10 (gi_xM1 hn hj (br_f gi_n10 (?_))))
  by_cases z : s < 1
  · exact br_t z hp
  · exact br_f z (br_f (hs.elim (fun e => absurd e z) id) hp)
theorem gi_Xq_state {post : Int32 → SX → Prop} {i j : Nat} {s : Int32} (hn : n ≤ 7) (hi : i < n) (hj : j < n) (hs1 : ¬ s < 1) (hs9 : s ≤ 9) (hij : nI i = nI j) (hp : post (-4) (nI n, nI (gi_cc a n), a, b, ls, o)) : wpX_state post (nI n, nI (gi_cc a n), a, b, ls, o) (nI i) (nI j) s := by
  unfold wpX_state
  dsimp only
  exact gi_xM1 hn hi (br_f gi_n10 (gi_xM1 hn hj (br_f gi_n10 (br_f hs1 (br_t hs9 (br_t hij hp))))))
theorem gi_Yg_state {post : Int32 → SY → Prop} {i j : Nat} {s : Int32} (hn : n ≤ 7) (hP : ∀ i, i < n → gi_P a b i) (hi : i < n) (hj : j < n) (hs1 : ¬ s < 1) (hs9 : s ≤ 9) (hij : ¬ nI i = nI j) (hp : post (gi_run (gi_lay a b n 0) (fun o c => if gi_sY (o (2 * i)) (o (2 * i + 1)) (o (2 * j)) (o (2 * j + 1)) = s then c + 1 else c) (gi_T a n) 0 0 o).1 (nI n, a, b, (gi_run (gi_lay a b n 0) (fun o c => if gi_sY (o (2 * i)) (o (2 * i + 1)) (o (2 * j)) (o (2 * j + 1)) = s then c + 1 else c) (gi_T a n) 0 0 o).2)) : wpY_state post (nI n, a, b, o) (nI i) (nI j) s := by
  have hi7 : i < 7 := by omega
  have hj7 : j < 7 := by omega
  have hT : gi_T a n ≤ 4096 := gi_Tle hn hP
  unfold wpY_state
  dsimp only
  refine gi_yM1 hn hi (br_f gi_n10 (gi_yM1 hn hj (br_f gi_n10 (br_f hs1 (br_t hs9 (br_f hij (gi_yW hn hP ⟨gi_T a n + 1, ?_⟩)))))))
  refine gi_loop (fun m c w o => wY_state_51 post (nI i) (nI j) s (nI (gi_T a n)) m c w (nI n) a b o) (fun c o => post c (nI n, a, b, o)) (gi_lay a b n 0) (fun o c => if gi_sY (o (2 * i)) (o (2 * i + 1)) (o (2 * j)) (o (2 * j + 1)) = s then c + 1 else c) (gi_T a n) (fun m c o hp => br_t (nI_le (Nat.le_refl _) (by omega)) hp) ?_ (gi_T a n) 0 0 o (by omega) hp
  · intro m c w o hw h
    refine br_f (nI_ge hw (by omega)) (gi_yL hn hP (by omega) ?_)
    refine gi_yS hi7 hj7 ?_
    try dsimp only at h
    by_cases z : gi_sY (gi_lay a b n 0 w o (2 * i)) (gi_lay a b n 0 w o (2 * i + 1)) (gi_lay a b n 0 w o (2 * j)) (gi_lay a b n 0 w o (2 * j + 1)) = s
    · rw [if_pos z] at h; exact br_t z (nm_e (nm_r (nI_1 w) h))
    · rw [if_neg z] at h; exact br_f z (nm_r (nI_1 w) h)
theorem gi_Yb_state {post : Int32 → SY → Prop} {p0 p1 p9 : Int32} (hn : n ≤ 7) (h : ¬ (gi_mem p0 n ∧ gi_mem p1 n)) (hp : post (-1) (nI n, a, b, o)) : wpY_state post (nI n, a, b, o) p0 p1 p9 := by
  unfold wpY_state
  dsimp only
  by_cases m0 : gi_mem p0 n
  · by_cases m1 : gi_mem p1 n
    · exact absurd ⟨m0, m1⟩ h
    · obtain ⟨j0, hj0, rfl⟩ := m0; exact gi_yM1 hn hj0 (br_f gi_n10 (gi_yM0 hn m1 (br_t rfl hp)))
  · exact gi_yM0 hn m0 (br_t rfl hp)
theorem gi_Ys_state {post : Int32 → SY → Prop} {i j : Nat} {s : Int32} (hn : n ≤ 7) (hi : i < n) (hj : j < n) (hs : s < 1 ∨ ¬ s ≤ 9) (hp : post (-1) (nI n, a, b, o)) : wpY_state post (nI n, a, b, o) (nI i) (nI j) s := by
  unfold wpY_state
  dsimp only
  refine gi_yM1 hn hi (br_f gi_n10 (gi_yM1 hn hj (br_f gi_n10 (?_))))
  by_cases z : s < 1
  · exact br_t z hp
  · exact br_f z (br_f (hs.elim (fun e => absurd e z) id) hp)
theorem gi_Yq_state {post : Int32 → SY → Prop} {i j : Nat} {s : Int32} (hn : n ≤ 7) (hi : i < n) (hj : j < n) (hs1 : ¬ s < 1) (hs9 : s ≤ 9) (hij : nI i = nI j) (hp : post (-4) (nI n, a, b, o)) : wpY_state post (nI n, a, b, o) (nI i) (nI j) s := by
  unfold wpY_state
  dsimp only
  exact gi_yM1 hn hi (br_f gi_n10 (gi_yM1 hn hj (br_f gi_n10 (br_f hs1 (br_t hs9 (br_t hij hp))))))
theorem gi_Xg_related {post : Int32 → SX → Prop} {i j : Nat} (hn : n ≤ 7) (hP : ∀ i, i < n → gi_P a b i) (hi : i < n) (hj : j < n) (hp : post (gi_run (gi_lay a b n 0) (fun o c => if gi_X2 o i j ≤ 0 then c else c + 1) (gi_T a n) 0 0 o).1 (nI n, nI (gi_cc a n), a, b, ls, (gi_run (gi_lay a b n 0) (fun o c => if gi_X2 o i j ≤ 0 then c else c + 1) (gi_T a n) 0 0 o).2)) : wpX_related post (nI n, nI (gi_cc a n), a, b, ls, o) (nI i) (nI j) := by
  have hi7 : i < 7 := by omega
  have hj7 : j < 7 := by omega
  have hT : gi_T a n ≤ 4096 := gi_Tle hn hP
  unfold wpX_related
  dsimp only
  refine gi_xM1 hn hi (br_f gi_n10 (gi_xM1 hn hj (br_f gi_n10 (gi_xW hn hP ⟨gi_T a n + 1, ?_⟩))))
  refine gi_loop (fun m c w o => wX_related_29 post (nI i) (nI j) (nI (gi_T a n)) m c w (nI n) (nI (gi_cc a n)) a b ls o) (fun c o => post c (nI n, nI (gi_cc a n), a, b, ls, o)) (gi_lay a b n 0) (fun o c => if gi_X2 o i j ≤ 0 then c else c + 1) (gi_T a n) (fun m c o hp => br_t (nI_le (Nat.le_refl _) (by omega)) hp) ?_ (gi_T a n) 0 0 o (by omega) hp
  · intro m c w o hw h
    refine br_f (nI_ge hw (by omega)) (gi_xL hn hP (by omega) ?_)
    refine gi_x2 hi7 hj7 ?_
    try dsimp only at h
    by_cases z : gi_X2 (gi_lay a b n 0 w o) i j ≤ 0
    · rw [if_pos z] at h; exact br_t z (nm_r (nI_1 w) h)
    · rw [if_neg z] at h; exact br_f z (nm_e (nm_r (nI_1 w) h))
theorem gi_Xb_related {post : Int32 → SX → Prop} {p0 p1 : Int32} (hn : n ≤ 7) (h : ¬ (gi_mem p0 n ∧ gi_mem p1 n)) (hp : post (-1) (nI n, nI (gi_cc a n), a, b, ls, o)) : wpX_related post (nI n, nI (gi_cc a n), a, b, ls, o) p0 p1 := by
  unfold wpX_related
  dsimp only
  by_cases m0 : gi_mem p0 n
  · by_cases m1 : gi_mem p1 n
    · exact absurd ⟨m0, m1⟩ h
    · obtain ⟨j0, hj0, rfl⟩ := m0; exact gi_xM1 hn hj0 (br_f gi_n10 (gi_xM0 hn m1 (br_t rfl hp)))
  · exact gi_xM0 hn m0 (br_t rfl hp)
theorem gi_Yg_related {post : Int32 → SY → Prop} {i j : Nat} (hn : n ≤ 7) (hP : ∀ i, i < n → gi_P a b i) (hi : i < n) (hj : j < n) (hp : post (gi_run (gi_lay a b n 0) (fun o c => if gi_sh o i 0 j ∨ gi_sh o i 1 j then c + 1 else c) (gi_T a n) 0 0 o).1 (nI n, a, b, (gi_run (gi_lay a b n 0) (fun o c => if gi_sh o i 0 j ∨ gi_sh o i 1 j then c + 1 else c) (gi_T a n) 0 0 o).2)) : wpY_related post (nI n, a, b, o) (nI i) (nI j) := by
  have hi7 : i < 7 := by omega
  have hj7 : j < 7 := by omega
  have hT : gi_T a n ≤ 4096 := gi_Tle hn hP
  unfold wpY_related
  dsimp only
  refine gi_yM1 hn hi (br_f gi_n10 (gi_yM1 hn hj (br_f gi_n10 (gi_yW hn hP ⟨gi_T a n + 1, ?_⟩))))
  refine gi_loop (fun m c w o => wY_related_29 post (nI i) (nI j) (nI (gi_T a n)) m c w (nI n) a b o) (fun c o => post c (nI n, a, b, o)) (gi_lay a b n 0) (fun o c => if gi_sh o i 0 j ∨ gi_sh o i 1 j then c + 1 else c) (gi_T a n) (fun m c o hp => br_t (nI_le (Nat.le_refl _) (by omega)) hp) ?_ (gi_T a n) 0 0 o (by omega) hp
  · intro m c w o hw h
    refine br_f (nI_ge hw (by omega)) (gi_yL hn hP (by omega) ?_)
    try dsimp only at h
    by_cases z : gi_sh (gi_lay a b n 0 w o) i 0 j
    · rw [if_pos (Or.inl z)] at h; exact gi_yH 0 hi7 hj7 (by omega) z (br_f gi_n10 (nm_e (nm_r (nI_1 w) h)))
    · refine gi_yH0 0 hi7 hj7 (by omega) z (br_t rfl ?_)
      by_cases y : gi_sh (gi_lay a b n 0 w o) i 1 j
      · rw [if_pos (Or.inr y)] at h; exact gi_yH 1 hi7 hj7 (by omega) y (br_f gi_n10 (nm_e (nm_r (nI_1 w) h)))
      · rw [if_neg (fun e => e.elim z y)] at h; exact gi_yH0 1 hi7 hj7 (by omega) y (br_t rfl (nm_r (nI_1 w) h))
theorem gi_Yb_related {post : Int32 → SY → Prop} {p0 p1 : Int32} (hn : n ≤ 7) (h : ¬ (gi_mem p0 n ∧ gi_mem p1 n)) (hp : post (-1) (nI n, a, b, o)) : wpY_related post (nI n, a, b, o) p0 p1 := by
  unfold wpY_related
  dsimp only
  by_cases m0 : gi_mem p0 n
  · by_cases m1 : gi_mem p1 n
    · exact absurd ⟨m0, m1⟩ h
    · obtain ⟨j0, hj0, rfl⟩ := m0; exact gi_yM1 hn hj0 (br_f gi_n10 (gi_yM0 hn m1 (br_t rfl hp)))
  · exact gi_yM0 hn m0 (br_t rfl hp)
theorem gi_Xg_from {post : Int32 → SX → Prop} {i j : Nat} (hn : n ≤ 7) (hP : ∀ i, i < n → gi_P a b i) (hi : i < n) (hj : j < n) (hf : a j = -1) (hp : post (gi_run (gi_lay a b n 0) (fun o c => c + (gi_cop o (2 * nI j) i + gi_cop o (2 * nI j + 1) i)) (gi_T a n) 0 0 o).1 (nI n, nI (gi_cc a n), a, b, ls, (gi_run (gi_lay a b n 0) (fun o c => c + (gi_cop o (2 * nI j) i + gi_cop o (2 * nI j + 1) i)) (gi_T a n) 0 0 o).2)) : wpX_from post (nI n, nI (gi_cc a n), a, b, ls, o) (nI i) (nI j) := by
  have hi7 : i < 7 := by omega
  have hj7 : j < 7 := by omega
  have hT : gi_T a n ≤ 4096 := gi_Tle hn hP
  unfold wpX_from
  dsimp only
  refine gi_xM1 hn hi (br_f gi_n10 (gi_xM1 hn hj (br_f gi_n10 (gi_xF1 (by omega) hf (br_f gi_n10 (gi_xW hn hP ⟨gi_T a n + 1, ?_⟩))))))
  refine gi_loop (fun m c w o => wX_from_40 post (nI i) (nI j) (nI (gi_T a n)) m c w (nI n) (nI (gi_cc a n)) a b ls o) (fun c o => post c (nI n, nI (gi_cc a n), a, b, ls, o)) (gi_lay a b n 0) (fun o c => c + (gi_cop o (2 * nI j) i + gi_cop o (2 * nI j + 1) i)) (gi_T a n) (fun m c o hp => br_t (nI_le (Nat.le_refl _) (by omega)) hp) ?_ (gi_T a n) 0 0 o (by omega) hp
  · intro m c w o hw h
    refine br_f (nI_ge hw (by omega)) (gi_xL hn hP (by omega) ?_)
    exact gi_xC hi7 (gi_xC hi7 (nm_e (nm_r (nI_1 w) h)))
theorem gi_Xb_from {post : Int32 → SX → Prop} {p0 p1 : Int32} (hn : n ≤ 7) (h : ¬ (gi_mem p0 n ∧ gi_mem p1 n)) (hp : post (-1) (nI n, nI (gi_cc a n), a, b, ls, o)) : wpX_from post (nI n, nI (gi_cc a n), a, b, ls, o) p0 p1 := by
  unfold wpX_from
  dsimp only
  by_cases m0 : gi_mem p0 n
  · by_cases m1 : gi_mem p1 n
    · exact absurd ⟨m0, m1⟩ h
    · obtain ⟨j0, hj0, rfl⟩ := m0; exact gi_xM1 hn hj0 (br_f gi_n10 (gi_xM0 hn m1 (br_t rfl hp)))
  · exact gi_xM0 hn m0 (br_t rfl hp)
theorem gi_Xn_from {post : Int32 → SX → Prop} {i j : Nat} (hn : n ≤ 7) (hP : ∀ i, i < n → gi_P a b i) (hi : i < n) (hj : j < n) (hf : ¬ a j = -1) (hp : post (-4) (nI n, nI (gi_cc a n), a, b, ls, o)) : wpX_from post (nI n, nI (gi_cc a n), a, b, ls, o) (nI i) (nI j) := by
  unfold wpX_from
  dsimp only
  exact gi_xM1 hn hi (br_f gi_n10 (gi_xM1 hn hj (br_f gi_n10 (gi_xF0 (by omega) hf (br_t rfl hp)))))
theorem gi_Yg_from {post : Int32 → SY → Prop} {i j : Nat} (hn : n ≤ 7) (hP : ∀ i, i < n → gi_P a b i) (hi : i < n) (hj : j < n) (hf : a j = -1) (hp : post (gi_run (gi_lay a b n 0) (fun o c => gi_sm (gi_ff o i j) 2 0 c) (gi_T a n) 0 0 o).1 (nI n, a, b, (gi_run (gi_lay a b n 0) (fun o c => gi_sm (gi_ff o i j) 2 0 c) (gi_T a n) 0 0 o).2)) : wpY_from post (nI n, a, b, o) (nI i) (nI j) := by
  have hi7 : i < 7 := by omega
  have hj7 : j < 7 := by omega
  have hT : gi_T a n ≤ 4096 := gi_Tle hn hP
  unfold wpY_from
  dsimp only
  refine gi_yM1 hn hi (br_f gi_n10 (gi_yM1 hn hj (br_f gi_n10 (And.intro (vp_in_nI (by omega) (by omega)) (br_t (by rw [nI_clamp (by omega), hf]; decide) (gi_yW hn hP ⟨gi_T a n + 1, ?_⟩))))))
  refine gi_loop (fun m c w o => wY_from_41 post (nI i) (nI j) (nI (gi_T a n)) m c w (nI n) a b o) (fun c o => post c (nI n, a, b, o)) (gi_lay a b n 0) (fun o c => gi_sm (gi_ff o i j) 2 0 c) (gi_T a n) (fun m c o hp => br_t (nI_le (Nat.le_refl _) (by omega)) hp) ?_ (gi_T a n) 0 0 o (by omega) hp
  · intro m c w o hw h
    refine br_f (nI_ge hw (by omega)) (gi_yL hn hP (by omega) ?_)
    exact gi_yi_from hi7 hj7 h
theorem gi_Yb_from {post : Int32 → SY → Prop} {p0 p1 : Int32} (hn : n ≤ 7) (h : ¬ (gi_mem p0 n ∧ gi_mem p1 n)) (hp : post (-1) (nI n, a, b, o)) : wpY_from post (nI n, a, b, o) p0 p1 := by
  unfold wpY_from
  dsimp only
  by_cases m0 : gi_mem p0 n
  · by_cases m1 : gi_mem p1 n
    · exact absurd ⟨m0, m1⟩ h
    · obtain ⟨j0, hj0, rfl⟩ := m0; exact gi_yM1 hn hj0 (br_f gi_n10 (gi_yM0 hn m1 (br_t rfl hp)))
  · exact gi_yM0 hn m0 (br_t rfl hp)
theorem gi_Yn_from {post : Int32 → SY → Prop} {i j : Nat} (hn : n ≤ 7) (hP : ∀ i, i < n → gi_P a b i) (hi : i < n) (hj : j < n) (hf : ¬ a j = -1) (hp : post (-4) (nI n, a, b, o)) : wpY_from post (nI n, a, b, o) (nI i) (nI j) := by
  have hf2 : ¬ a j < 0 := by
    rcases hP j hj with h | ⟨p, q, hpj, _, ha, _⟩
    · exact absurd h hf
    · rw [ha]; exact nI_pos (by omega)
  unfold wpY_from
  dsimp only
  exact gi_yM1 hn hi (br_f gi_n10 (gi_yM1 hn hj (br_f gi_n10 (And.intro (vp_in_nI (by omega) (by omega)) (br_f (by rw [nI_clamp (by omega)]; exact hf2) hp)))))
end
