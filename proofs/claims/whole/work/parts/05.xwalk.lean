/-! numbers as they are printed, and the component's own methods -/
theorem gi_n10 : ¬ (1 : Int32) = 0 := by decide
theorem gi_2 (i : Nat) : 2 * nI i = nI (2 * i) := pk_mul 2 i
theorem gi_21 (i : Nat) : 2 * nI i + 1 = nI (2 * i + 1) := by rw [gi_2, nI_1]
theorem gi_2r (i r : Nat) : 2 * nI i + nI r = nI (2 * i + r) := by rw [gi_2, nI_add]
theorem gi_c2 {i : Nat} (h : i < 7) : (2 * nI i).toNatClampNeg = 2 * i := by rw [gi_2, nI_clamp (by omega)]
theorem gi_c3 {i : Nat} (h : i < 7) : (2 * nI i + 1).toNatClampNeg = 2 * i + 1 := by rw [gi_21, nI_clamp (by omega)]
theorem gi_i2 {i : Nat} (h : i < 7) : vp_in (2 * nI i) 14 := by rw [gi_2]; exact vp_in_nI (by omega) (by omega)
theorem gi_i3 {i : Nat} (h : i < 7) : vp_in (2 * nI i + 1) 14 := by rw [gi_21]; exact vp_in_nI (by omega) (by omega)
theorem gi_a1 {r : Nat} (h : r < 2 ^ 31) : nI r &&& 1 = nI (r % 2) := pk_andN (by omega) 1 (by decide)
theorem gi_sr1 {r : Nat} (h : r < 2 ^ 31) : nI r >>> ((1 : Int32) &&& 31) = nI (r / 2) := pk_shrN h _ 1 (by decide)
theorem gi_sr2 {r : Nat} (h : r < 2 ^ 31) : nI r >>> ((2 : Int32) &&& 31) = nI (r / 4) := pk_shrN h _ 2 (by decide)
theorem gi_d2 {r : Nat} (h : r < 2 ^ 31) : nI r / 2 = nI (r / 2) := pk_div h (by decide) (by decide)
theorem gi_d4 {r : Nat} (h : r < 2 ^ 31) : nI r / 4 = nI (r / 4) := pk_div h (by decide) (by decide)
theorem gi_md2 {r : Nat} (h : r < 2 ^ 31) : nI r - nI r / 2 * 2 = nI (r % 2) := pk_rem h (by decide) (by decide)
def gi_mem (x : Int32) (n : Nat) : Prop := ∃ j : Nat, j < n ∧ x = nI j
def gi_T (a : Nat → Int32) (n : Nat) : Nat := 4 ^ gi_cc a n
theorem gi_Tle {a b : Nat → Int32} {n : Nat} (hn : n ≤ 7) (hP : ∀ i, i < n → gi_P a b i) : gi_T a n ≤ 4096 := gi_4096 _ (Nat.lt_succ_of_le (gi_cc_6 hn hP))
theorem gi_Teq {a b : Nat → Int32} {n : Nat} (hn : n ≤ 7) (hP : ∀ i, i < n → gi_P a b i) : (1 : Int32) <<< ((2 * nI (gi_cc a n)) &&& 31) = nI (gi_T a n) := gi_ways _ (Nat.lt_succ_of_le (gi_cc_6 hn hP))
section
variable {n : Nat} {fc : Int32} {a b ls o : Nat → Int32}
theorem gi_xM1 {post : Int32 → Prop} {j : Nat} (hn : n ≤ 7) (hj : j < n) (hp : post 1) : wpX_isMember post (nI n, fc, a, b, ls, o) (nI j) := by
  show (_ → _) ∧ (_ → _)
  exact br_f (nI_pos (by omega)) (br_f (nI_ge hj (by omega)) hp)
theorem gi_xM0 {post : Int32 → Prop} {x : Int32} (hn : n ≤ 7) (h : ¬ gi_mem x n) (hp : post 0) : wpX_isMember post (nI n, fc, a, b, ls, o) x := by
  show (_ → _) ∧ (_ → _)
  rcases pk_ix x (n := n) (by omega) with h1 | h1 | h1
  · exact br_t h1 hp
  · by_cases h0 : x < 0
    · exact br_t h0 hp
    · exact br_f h0 (br_t h1 hp)
  · exact absurd h1 h
theorem gi_xF1 {post : Int32 → Prop} {j : Nat} (hj : j < 7) (h : a j = -1) (hp : post 1) : wpX_isFounder post (nI n, fc, a, b, ls, o) (nI j) := by
  show _ ∧ _
  exact ⟨vp_in_nI hj (by omega), br_t (by rw [nI_clamp (by omega)]; exact h) hp⟩
theorem gi_xF0 {post : Int32 → Prop} {j : Nat} (hj : j < 7) (h : ¬ a j = -1) (hp : post 0) : wpX_isFounder post (nI n, fc, a, b, ls, o) (nI j) := by
  show _ ∧ _
  exact ⟨vp_in_nI hj (by omega), br_f (by rw [nI_clamp (by omega)]; exact h) hp⟩
theorem gi_xW {post : Int32 → Prop} (hn : n ≤ 7) (hP : ∀ i, i < n → gi_P a b i) (hp : post (nI (gi_T a n))) : wpX_ways post (nI n, nI (gi_cc a n), a, b, ls, o) := by
  show post ((1 : Int32) <<< ((2 * nI (gi_cc a n)) &&& 31))
  rw [gi_Teq hn hP]
  exact hp
theorem gi_xL4 {post : SX → Prop} (hn : n ≤ 7) (hP : ∀ i, i < n → gi_P a b i) : ∀ d i r : Nat, ∀ o : Nat → Int32, i + d = n → r < 2 ^ 31 → post (nI n, fc, a, b, ls, gi_lay a b d i r o) → wX_layOut_4 post (nI n) fc (d + 1) (nI r) (nI i) a b ls o := by
  intro d
  induction d with
  | zero =>
    intro i r o hi hr hp
    have h : nI n ≤ nI i := nI_le (by omega) (by omega)
    exact br_t h hp
  | succ d ih =>
    intro i r o hi hr hp
    have h : ¬ nI n ≤ nI i := nI_ge (by omega) (by omega)
    have h7 : i < 7 := by omega
    have hc : (nI i).toNatClampNeg = i := nI_clamp (by omega)
    have hin : vp_in (nI i) 7 := vp_in_nI h7 (by omega)
    refine br_f h ?_
    rcases hP i (by omega) with hf | ⟨p, q, hpi, hqi, ha, hb⟩
    · rw [gi_layF hf] at hp
      refine gi_xF1 h7 hf (br_f gi_n10 ⟨gi_i2 h7, nm_r (e' := upd o (2 * i) (nI (2 * i))) (by rw [gi_c2 h7, gi_2]) ⟨gi_i3 h7, nm_r (e' := upd (upd o (2 * i) (nI (2 * i))) (2 * i + 1) (nI (2 * i + 1))) (by rw [gi_c3 h7, gi_21]) (nm_r (nI_1 i) ?_)⟩⟩)
      exact ih (i + 1) r _ (by omega) hr hp
    · rw [gi_layC (by omega) (by omega) ha hb] at hp
      have hf : ¬ a i = -1 := by rw [ha]; exact gi_m1 (by omega)
      have ea : 2 * a (nI i).toNatClampNeg + (nI r &&& 1) = nI (2 * p + r % 2) := by rw [hc, ha, gi_a1 hr, gi_2r]
      have eb : 2 * b (nI i).toNatClampNeg + ((nI r >>> ((1 : Int32) &&& 31)) &&& 1) = nI (2 * q + r / 2 % 2) := by rw [hc, hb, gi_sr1 hr, gi_a1 (by omega), gi_2r]
      refine gi_xF0 h7 hf (br_t rfl ⟨hin, pk_in (2 * p + r % 2) 14 (by omega) ea, gi_i2 h7, nm_r (e' := upd o (2 * i) (o (2 * p + r % 2))) (by rw [gi_c2 h7, ea, nI_clamp (by omega)]) ⟨hin, pk_in (2 * q + r / 2 % 2) 14 (by omega) eb, gi_i3 h7, nm_r (e' := upd (upd o (2 * i) (o (2 * p + r % 2))) (2 * i + 1) (upd o (2 * i) (o (2 * p + r % 2)) (2 * q + r / 2 % 2))) (by rw [gi_c3 h7, eb, nI_clamp (by omega)]) (nm_r (gi_sr2 hr) (nm_r (nI_1 i) ?_))⟩⟩)
      exact ih (i + 1) (r / 4) _ (by omega) (by omega) hp
theorem gi_xL {post : SX → Prop} {w : Nat} (hn : n ≤ 7) (hP : ∀ i, i < n → gi_P a b i) (hw : w < 2 ^ 31) (hp : post (nI n, fc, a, b, ls, gi_lay a b n 0 w o)) : wpX_layOut post (nI n, fc, a, b, ls, o) (nI w) := by
  show ∃ n4 : Nat, wX_layOut_4 post (nI n) fc n4 (nI w) 0 a b ls o
  exact ⟨n + 1, gi_xL4 hn hP n 0 w o (by omega) hw hp⟩
theorem gi_xO1 {post : Int32 → Prop} {i : Nat} (hi : i < 7) (h : o (2 * i) = o (2 * i + 1)) (hp : post 1) : wpX_ownAlike post (nI n, fc, a, b, ls, o) (nI i) := by
  show _ ∧ _
  exact ⟨gi_i2 hi, gi_i3 hi, br_t (by rw [gi_c2 hi, gi_c3 hi]; exact h) hp⟩
theorem gi_xO0 {post : Int32 → Prop} {i : Nat} (hi : i < 7) (h : ¬ o (2 * i) = o (2 * i + 1)) (hp : post 0) : wpX_ownAlike post (nI n, fc, a, b, ls, o) (nI i) := by
  show _ ∧ _
  exact ⟨gi_i2 hi, gi_i3 hi, br_f (by rw [gi_c2 hi, gi_c3 hi]; exact h) hp⟩
theorem gi_xC {post : Int32 → Prop} {g : Int32} {j : Nat} (hj : j < 7) (hp : post (gi_cop o g j)) : wpX_copiesOf post (nI n, fc, a, b, ls, o) g (nI j) := by
  show _ ∧ _
  refine ⟨gi_i2 hj, ?_⟩
  rw [gi_c2 hj]
  by_cases h1 : o (2 * j) = g
  · refine br_t h1 (nm_r (show (0 : Int32) + 1 = 1 by decide) ?_)
    show _ ∧ _
    refine ⟨gi_i3 hj, ?_⟩
    rw [gi_c3 hj]
    by_cases h2 : o (2 * j + 1) = g
    · have e : gi_cop o g j = 1 + 1 := by unfold gi_cop; rw [gi_e1 h1.symm, gi_e1 h2.symm]
      rw [e] at hp
      exact br_t h2 (nm_e hp)
    · have e : gi_cop o g j = 1 := by unfold gi_cop; rw [gi_e1 h1.symm, gi_e0 (fun z => h2 z.symm)]; decide
      rw [e] at hp
      exact br_f h2 hp
  · refine br_f h1 ?_
    show _ ∧ _
    refine ⟨gi_i3 hj, ?_⟩
    rw [gi_c3 hj]
    by_cases h2 : o (2 * j + 1) = g
    · have e : gi_cop o g j = 0 + 1 := by unfold gi_cop; rw [gi_e0 (fun z => h1 z.symm), gi_e1 h2.symm]
      rw [e] at hp
      exact br_t h2 (nm_e hp)
    · have e : gi_cop o g j = 0 := by unfold gi_cop; rw [gi_e0 (fun z => h1 z.symm), gi_e0 (fun z => h2 z.symm)]; decide
      rw [e] at hp
      exact br_f h2 hp
theorem gi_20 (i : Nat) : 2 * nI i + 0 = nI (2 * i) := by rw [gi_2, Int32.add_zero]
theorem gi_i20 {i : Nat} (h : i < 7) : vp_in (2 * nI i + 0) 14 := by rw [gi_20]; exact vp_in_nI (by omega) (by omega)
theorem gi_o20 {i : Nat} (h : i < 7) : o (2 * nI i + 0).toNatClampNeg = o (2 * i) := by rw [gi_20, nI_clamp (by omega)]
theorem gi_o21 {i : Nat} (h : i < 7) : o (2 * nI i + 1).toNatClampNeg = o (2 * i + 1) := by rw [gi_c3 h]
theorem gi_01 : (0 : Int32) + 1 = 1 := by decide
theorem gi_12 : (1 : Int32) + 1 = 2 := by decide
theorem gi_l0 : ¬ (2 : Int32) ≤ 0 := by decide
theorem gi_l1 : ¬ (2 : Int32) ≤ 1 := by decide
theorem gi_l2 : (2 : Int32) ≤ 2 := by decide
theorem gi_x2 {post : Int32 → Prop} {i j : Nat} (hi : i < 7) (hj : j < 7) (hp : post (gi_X2 o i j)) : wpX_alikeTwos post (nI n, fc, a, b, ls, o) (nI i) (nI j) := by
  show ∃ n5 : Nat, wX_alikeTwos_5 post (nI i) (nI j) (nI n) fc a b ls o n5 0 0
  exact ⟨3, br_f gi_l0 ⟨gi_i20 hi, nm_r (gi_o20 hi) (gi_xC hj (nm_e (nm_r gi_01 (br_f gi_l1 ⟨gi_i3 hi, nm_r (gi_o21 hi) (gi_xC hj (nm_e (nm_r gi_12 (br_t gi_l2 hp))))⟩))))⟩⟩
theorem gi_x3 {post : Int32 → Prop} {i j k : Nat} (hi : i < 7) (hj : j < 7) (hk : k < 7) (hp : post (gi_X3 o i j k)) : wpX_alikeThrees post (nI n, fc, a, b, ls, o) (nI i) (nI j) (nI k) := by
  show ∃ n6 : Nat, wX_alikeThrees_6 post (nI i) (nI j) (nI k) (nI n) fc a b ls o n6 0 0
  exact ⟨3, br_f gi_l0 ⟨gi_i20 hi, nm_r (gi_o20 hi) (gi_xC hj (gi_xC hk (nm_e (nm_r gi_01 (br_f gi_l1 ⟨gi_i3 hi, nm_r (gi_o21 hi) (gi_xC hj (gi_xC hk (nm_e (nm_r gi_12 (br_t gi_l2 hp)))))⟩)))))⟩⟩
theorem gi_x4 {post : Int32 → Prop} {i j k l : Nat} (hi : i < 7) (hj : j < 7) (hk : k < 7) (hl : l < 7) (hp : post (gi_X4 o i j k l)) : wpX_alikeFours post (nI n, fc, a, b, ls, o) (nI i) (nI j) (nI k) (nI l) := by
  show ∃ n6 : Nat, wX_alikeFours_6 post (nI i) (nI j) (nI k) (nI l) (nI n) fc a b ls o n6 0 0
  exact ⟨3, br_f gi_l0 ⟨gi_i20 hi, nm_r (gi_o20 hi) (gi_xC hj (gi_xC hk (gi_xC hl (nm_e (nm_r gi_01 (br_f gi_l1 ⟨gi_i3 hi, nm_r (gi_o21 hi) (gi_xC hj (gi_xC hk (gi_xC hl (nm_e (nm_r gi_12 (br_t gi_l2 hp))))))⟩))))))⟩⟩
theorem gi_xS {post : Int32 → Prop} {i j : Nat} (hi : i < 7) (hj : j < 7) (hp : post (gi_sX (o (2 * i)) (o (2 * i + 1)) (o (2 * j)) (o (2 * j + 1)))) : wpX_stateNow post (nI n, fc, a, b, ls, o) (nI i) (nI j) := by
  unfold wpX_stateNow
  dsimp only
  refine gi_x2 hi hj ?_
  rw [gi_X2s]
  unfold gi_sX at hp
  by_cases h1 : o (2 * i) = o (2 * i + 1)
  · rw [if_pos h1] at hp
    refine gi_xO1 hi h1 ?_
    by_cases h2 : o (2 * j) = o (2 * j + 1)
    · rw [if_pos h2] at hp
      refine gi_xO1 hj h2 (br_f gi_n10 (br_f gi_n10 ?_))
      by_cases h3 : gi_su (o (2 * i)) (o (2 * i + 1)) (o (2 * j)) (o (2 * j + 1)) ≤ 0
      · rw [if_pos h3] at hp; exact br_t h3 hp
      · rw [if_neg h3] at hp; exact br_f h3 hp
    · rw [if_neg h2] at hp
      refine gi_xO0 hj h2 (br_f gi_n10 (br_t rfl (br_f gi_n10 ?_)))
      by_cases h3 : gi_su (o (2 * i)) (o (2 * i + 1)) (o (2 * j)) (o (2 * j + 1)) ≤ 0
      · rw [if_pos h3] at hp; exact br_t h3 hp
      · rw [if_neg h3] at hp; exact br_f h3 hp
  · rw [if_neg h1] at hp
    refine gi_xO0 hi h1 ?_
    by_cases h2 : o (2 * j) = o (2 * j + 1)
    · rw [if_pos h2] at hp
      refine gi_xO1 hj h2 (br_t rfl (br_t rfl (br_f gi_n10 ?_)))
      by_cases h3 : gi_su (o (2 * i)) (o (2 * i + 1)) (o (2 * j)) (o (2 * j + 1)) ≤ 0
      · rw [if_pos h3] at hp; exact br_t h3 hp
      · rw [if_neg h3] at hp; exact br_f h3 hp
    · rw [if_neg h2] at hp
      exact gi_xO0 hj h2 (br_t rfl (br_t rfl (br_t rfl hp)))
end
