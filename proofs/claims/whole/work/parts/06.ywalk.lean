/-! the reference's own methods -/
theorem gi_n20 : ¬ (2 : Int32) = 0 := by decide
theorem gi_n40 : ¬ (4 : Int32) = 0 := by decide
section
variable {n : Nat} {a b o : Nat → Int32}
theorem gi_yM1 {post : Int32 → Prop} {j : Nat} (hn : n ≤ 7) (hj : j < n) (hp : post 1) : wpY_is post (nI n, a, b, o) (nI j) := by
  show (_ → _) ∧ (_ → _)
  exact br_f (nI_pos (by omega)) (br_f (nI_ge hj (by omega)) hp)
theorem gi_yM0 {post : Int32 → Prop} {x : Int32} (hn : n ≤ 7) (h : ¬ gi_mem x n) (hp : post 0) : wpY_is post (nI n, a, b, o) x := by
  show (_ → _) ∧ (_ → _)
  rcases pk_ix x (n := n) (by omega) with h1 | h1 | h1
  · exact br_t h1 hp
  · by_cases h0 : x < 0
    · exact br_t h0 hp
    · exact br_f h0 (br_t h1 hp)
  · exact absurd h1 h
theorem gi_yK4 {post : Int32 → Prop} (hn : n ≤ 7) (hP : ∀ i, i < n → gi_P a b i) (hp : post (nI (gi_cc a n))) : ∀ d i : Nat, i + d = n → wY_children_4 post (nI n) a b o (d + 1) (nI (gi_cc a i)) (nI i) := by
  intro d
  induction d with
  | zero =>
    intro i hi
    have e : i = n := by omega
    rw [e]
    exact br_t (nI_le (Nat.le_refl n) (by omega)) hp
  | succ d ih =>
    intro i hi
    have h : ¬ nI n ≤ nI i := nI_ge (by omega) (by omega)
    have hc : (nI i).toNatClampNeg = i := nI_clamp (by omega)
    have hin : vp_in (nI i) 7 := vp_in_nI (by omega) (by omega)
    have k := ih (i + 1) (by omega)
    refine br_f h ⟨hin, ?_⟩
    rw [hc]
    rcases hP i (by omega) with hf | ⟨p, q, hpi, hqi, ha, hb⟩
    · rw [gi_ccF hf] at k
      exact br_t (by rw [hf]; decide) (nm_r (nI_1 i) k)
    · rw [gi_ccC (by rw [ha]; exact gi_m1 (by omega))] at k
      exact br_f (by rw [ha]; exact nI_pos (by omega)) (nm_r (nI_1 _) (nm_r (nI_1 i) k))
theorem gi_yK {post : Int32 → Prop} (hn : n ≤ 7) (hP : ∀ i, i < n → gi_P a b i) (hp : post (nI (gi_cc a n))) : wpY_children post (nI n, a, b, o) := by
  show ∃ n4 : Nat, wY_children_4 post (nI n) a b o n4 0 0
  exact ⟨n + 1, gi_yK4 hn hP hp n 0 (by omega)⟩
theorem gi_yW {post : Int32 → Prop} (hn : n ≤ 7) (hP : ∀ i, i < n → gi_P a b i) (hp : post (nI (gi_T a n))) : wpY_ways post (nI n, a, b, o) := by
  unfold wpY_ways
  dsimp only
  refine gi_yK hn hP ?_
  rw [gi_Teq hn hP]
  exact hp
theorem gi_yL4 {post : SY → Prop} (hn : n ≤ 7) (hP : ∀ i, i < n → gi_P a b i) : ∀ d i r : Nat, ∀ o : Nat → Int32, i + d = n → r < 2 ^ 31 → post (nI n, a, b, gi_lay a b d i r o) → wY_follow_4 post (nI n) (d + 1) (nI r) (nI i) a b o := by
  intro d
  induction d with
  | zero =>
    intro i r o hi hr hp
    have h : nI n ≤ nI i := nI_le (by omega) (by omega)
    exact br_t h hp
  | succ d ih =>
    intro i r o hi hr hp
    have h : ¬ nI n ≤ nI i := nI_ge (by omega) (by omega)
    have h7 : i < 7 := by omega
    have hc : (nI i).toNatClampNeg = i := nI_clamp (by omega)
    have hin : vp_in (nI i) 7 := vp_in_nI h7 (by omega)
    refine br_f h ⟨hin, ?_⟩
    rcases hP i (by omega) with hf | ⟨p, q, hpi, hqi, ha, hb⟩
    · rw [gi_layF hf] at hp
      refine br_f (by rw [hc, hf]; decide) ⟨gi_i2 h7, nm_r (e' := upd o (2 * i) (nI (2 * i))) (by rw [gi_c2 h7, gi_2]) ⟨gi_i3 h7, nm_r (e' := upd (upd o (2 * i) (nI (2 * i))) (2 * i + 1) (nI (2 * i + 1))) (by rw [gi_c3 h7, gi_21]) (nm_r (nI_1 i) ?_)⟩⟩
      exact ih (i + 1) r _ (by omega) hr hp
    · rw [gi_layC (by omega) (by omega) ha hb] at hp
      have ea : 2 * a (nI i).toNatClampNeg + (nI r - nI r / 2 * 2) = nI (2 * p + r % 2) := by rw [hc, ha, gi_md2 hr, gi_2r]
      have eb : 2 * b (nI i).toNatClampNeg + ((nI r / 2) - (nI r / 2) / 2 * 2) = nI (2 * q + r / 2 % 2) := by rw [hc, hb, gi_d2 hr, gi_md2 (by omega), gi_2r]
      refine br_t (by rw [hc, ha]; exact nI_pos' (by omega)) ⟨hin, gi_n20, pk_in (2 * p + r % 2) 14 (by omega) ea, gi_i2 h7, nm_r (e' := upd o (2 * i) (o (2 * p + r % 2))) (by rw [gi_c2 h7, ea, nI_clamp (by omega)]) ⟨hin, gi_n20, gi_n20, pk_in (2 * q + r / 2 % 2) 14 (by omega) eb, gi_i3 h7, nm_r (e' := upd (upd o (2 * i) (o (2 * p + r % 2))) (2 * i + 1) (upd o (2 * i) (o (2 * p + r % 2)) (2 * q + r / 2 % 2))) (by rw [gi_c3 h7, eb, nI_clamp (by omega)]) ⟨gi_n40, nm_r (gi_d4 hr) (nm_r (nI_1 i) ?_)⟩⟩⟩
      exact ih (i + 1) (r / 4) _ (by omega) (by omega) hp
theorem gi_yL {post : SY → Prop} {w : Nat} (hn : n ≤ 7) (hP : ∀ i, i < n → gi_P a b i) (hw : w < 2 ^ 31) (hp : post (nI n, a, b, gi_lay a b n 0 w o)) : wpY_follow post (nI n, a, b, o) (nI w) := by
  show ∃ n4 : Nat, wY_follow_4 post (nI n) n4 (nI w) 0 a b o
  exact ⟨n + 1, gi_yL4 hn hP n 0 w o (by omega) hw hp⟩
theorem gi_yg {i c t : Nat} (hc : c < 16) (ht : t < 4) : 2 * nI i + ((nI c >>> (nI t &&& 31)) &&& 1) = nI (2 * i + c / 2 ^ t % 2) := by
  have h : c / 2 ^ t ≤ c := Nat.div_le_self _ _
  rw [pk_shrN (by omega) _ t (s_l t (by omega)), gi_a1 (by omega), gi_2r]
theorem gi_yG {post : Int32 → Prop} {i c : Nat} (t : Nat) (hi : i < 7) (hc : c < 16) (ht : t < 4) (hp : post (gi_at o i c t)) : wpY_gene post (nI n, a, b, o) (nI i) (nI c) (nI t) := by
  show _ ∧ _
  rw [gi_yg hc ht, nI_clamp (by omega)]
  exact ⟨vp_in_nI (by omega) (by omega), hp⟩
theorem gi_yH {post : Int32 → Prop} {i j : Nat} (g : Nat) (hi : i < 7) (hj : j < 7) (hg : g < 2) (h : gi_sh o i g j) (hp : post 1) : wpY_shares post (nI n, a, b, o) (nI i) (nI g) (nI j) := by
  show _ ∧ _
  have i1 : vp_in (nI (2 * i + g)) 14 := vp_in_nI (by omega) (by omega)
  rw [gi_2r, gi_c2 hj, gi_c3 hj, nI_clamp (by omega)]
  refine ⟨i1, gi_i2 hj, ?_⟩
  by_cases z : o (2 * i + g) = o (2 * j)
  · exact br_t z hp
  · rcases h with h | h
    · exact absurd h z
    · exact br_f z ⟨i1, gi_i3 hj, br_t h hp⟩
theorem gi_yH0 {post : Int32 → Prop} {i j : Nat} (g : Nat) (hi : i < 7) (hj : j < 7) (hg : g < 2) (h : ¬ gi_sh o i g j) (hp : post 0) : wpY_shares post (nI n, a, b, o) (nI i) (nI g) (nI j) := by
  show _ ∧ _
  have i1 : vp_in (nI (2 * i + g)) 14 := vp_in_nI (by omega) (by omega)
  rw [gi_2r, gi_c2 hj, gi_c3 hj, nI_clamp (by omega)]
  exact ⟨i1, gi_i2 hj, br_f (fun z => h (Or.inl z)) ⟨i1, gi_i3 hj, br_f (fun z => h (Or.inr z)) hp⟩⟩
theorem gi_yS {post : Int32 → Prop} {i j : Nat} (hi : i < 7) (hj : j < 7) (hp : post (gi_sY (o (2 * i)) (o (2 * i + 1)) (o (2 * j)) (o (2 * j + 1)))) : wpY_stateOf post (nI n, a, b, o) (nI i) (nI j) := by
  unfold gi_sY at hp
  show _ ∧ _
  refine ⟨gi_i2 hi, gi_i3 hi, ?_⟩
  rw [gi_c2 hi, gi_c3 hi]
  by_cases h1 : o (2 * i) = o (2 * i + 1)
  · rw [if_pos h1] at hp
    refine br_t h1 ?_
    show _ ∧ _
    refine ⟨gi_i2 hj, gi_i3 hj, ?_⟩
    rw [gi_c2 hj, gi_c3 hj]
    by_cases h2 : o (2 * j) = o (2 * j + 1)
    · rw [if_pos h2] at hp
      refine br_t h2 ?_
      unfold wY_stateOf_53
      by_cases h3 : o (2 * i) = o (2 * j) ∨ o (2 * i) = o (2 * j + 1)
      · rw [if_pos h3] at hp
        refine gi_yH 0 hi hj (by omega) h3 ?_
        by_cases h4 : o (2 * i + 1) = o (2 * j) ∨ o (2 * i + 1) = o (2 * j + 1)
        · exact gi_yH 1 hi hj (by omega) h4 (br_f gi_n10 (br_f gi_n10 (br_f gi_n10 hp)))
        · exact gi_yH0 1 hi hj (by omega) h4 (br_f gi_n10 (br_f gi_n10 (br_f gi_n10 hp)))
      · rw [if_neg h3] at hp
        refine gi_yH0 0 hi hj (by omega) h3 ?_
        by_cases h4 : o (2 * i + 1) = o (2 * j) ∨ o (2 * i + 1) = o (2 * j + 1)
        · exact gi_yH 1 hi hj (by omega) h4 (br_f gi_n10 (br_f gi_n10 (br_t rfl hp)))
        · exact gi_yH0 1 hi hj (by omega) h4 (br_f gi_n10 (br_f gi_n10 (br_t rfl hp)))
    · rw [if_neg h2] at hp
      refine br_f h2 ?_
      unfold wY_stateOf_53
      by_cases h3 : o (2 * i) = o (2 * j) ∨ o (2 * i) = o (2 * j + 1)
      · rw [if_pos h3] at hp
        refine gi_yH 0 hi hj (by omega) h3 ?_
        by_cases h4 : o (2 * i + 1) = o (2 * j) ∨ o (2 * i + 1) = o (2 * j + 1)
        · exact gi_yH 1 hi hj (by omega) h4 (br_f gi_n10 (br_t rfl (br_f gi_n10 (br_f gi_n10 hp))))
        · exact gi_yH0 1 hi hj (by omega) h4 (br_f gi_n10 (br_t rfl (br_f gi_n10 (br_f gi_n10 hp))))
      · rw [if_neg h3] at hp
        refine gi_yH0 0 hi hj (by omega) h3 ?_
        by_cases h4 : o (2 * i + 1) = o (2 * j) ∨ o (2 * i + 1) = o (2 * j + 1)
        · exact gi_yH 1 hi hj (by omega) h4 (br_f gi_n10 (br_t rfl (br_f gi_n10 (br_t rfl hp))))
        · exact gi_yH0 1 hi hj (by omega) h4 (br_f gi_n10 (br_t rfl (br_f gi_n10 (br_t rfl hp))))
  · rw [if_neg h1] at hp
    refine br_f h1 ?_
    show _ ∧ _
    refine ⟨gi_i2 hj, gi_i3 hj, ?_⟩
    rw [gi_c2 hj, gi_c3 hj]
    by_cases h2 : o (2 * j) = o (2 * j + 1)
    · rw [if_pos h2] at hp
      refine br_t h2 ?_
      unfold wY_stateOf_53
      by_cases h3 : o (2 * i) = o (2 * j) ∨ o (2 * i) = o (2 * j + 1)
      · rw [if_pos h3] at hp
        refine gi_yH 0 hi hj (by omega) h3 ?_
        by_cases h4 : o (2 * i + 1) = o (2 * j) ∨ o (2 * i + 1) = o (2 * j + 1)
        · exact gi_yH 1 hi hj (by omega) h4 (br_t rfl (br_t rfl (br_f gi_n10 (br_f gi_n10 hp))))
        · exact gi_yH0 1 hi hj (by omega) h4 (br_t rfl (br_t rfl (br_f gi_n10 (br_f gi_n10 hp))))
      · rw [if_neg h3] at hp
        refine gi_yH0 0 hi hj (by omega) h3 ?_
        by_cases h4 : o (2 * i + 1) = o (2 * j) ∨ o (2 * i + 1) = o (2 * j + 1)
        · rw [if_pos h4] at hp; exact gi_yH 1 hi hj (by omega) h4 (br_t rfl (br_t rfl (br_f gi_n10 (br_t rfl (br_f gi_n10 hp)))))
        · rw [if_neg h4] at hp; exact gi_yH0 1 hi hj (by omega) h4 (br_t rfl (br_t rfl (br_f gi_n10 (br_t rfl (br_t rfl hp)))))
    · rw [if_neg h2] at hp
      refine br_f h2 ?_
      unfold wY_stateOf_53
      by_cases h3 : o (2 * i) = o (2 * j) ∨ o (2 * i) = o (2 * j + 1)
      · rw [if_pos h3] at hp
        refine gi_yH 0 hi hj (by omega) h3 ?_
        by_cases h4 : o (2 * i + 1) = o (2 * j) ∨ o (2 * i + 1) = o (2 * j + 1)
        · rw [if_pos h4] at hp; exact gi_yH 1 hi hj (by omega) h4 (br_t rfl (br_t rfl (br_t rfl (br_f gi_n10 (br_f gi_n10 hp)))))
        · rw [if_neg h4] at hp; exact gi_yH0 1 hi hj (by omega) h4 (br_t rfl (br_t rfl (br_t rfl (br_f gi_n10 (br_t rfl (br_f gi_n10 hp))))))
      · rw [if_neg h3] at hp
        refine gi_yH0 0 hi hj (by omega) h3 ?_
        by_cases h4 : o (2 * i + 1) = o (2 * j) ∨ o (2 * i + 1) = o (2 * j + 1)
        · rw [if_pos h4] at hp; exact gi_yH 1 hi hj (by omega) h4 (br_t rfl (br_t rfl (br_t rfl (br_t rfl (br_t rfl (br_f gi_n10 hp))))))
        · rw [if_neg h4] at hp; exact gi_yH0 1 hi hj (by omega) h4 (br_t rfl (br_t rfl (br_t rfl (br_t rfl (br_t rfl (br_t rfl hp))))))
end
