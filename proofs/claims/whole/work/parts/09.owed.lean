/-! what is owed: the relation, and a statement a method -/
/-- both sides hold the same members, parents and genes; the component's line sets are the line of each member, its counter the children -/
def i_Rel (k : Nat) (u : SX) (v : SY) : Prop := ∃ (n : Nat) (a b ls o : Nat → Int32), n ≤ 7 ∧ (∀ i, i < n → gi_G a b ls i) ∧ u = (nI n, nI (gi_cc a n), a, b, ls, o) ∧ v = (nI n, a, b, o)
theorem gi_fin {k n : Nat} {a b ls : Nat → Int32} {R R' : Int32 × (Nat → Int32)} (hn : n ≤ 7) (hG : ∀ i, i < n → gi_G a b ls i) (e : R = R') : R'.1 = R.1 ∧ i_Rel k (nI n, nI (gi_cc a n), a, b, ls, R.2) (nI n, a, b, R'.2) := by
  subst e
  exact ⟨rfl, n, a, b, ls, _, hn, hG, rfl, rfl⟩
theorem gi_Gup {a b ls : Nat → Int32} {n i : Nat} {x y z : Int32} (hi : i < n) (h : gi_G a b ls i) : gi_G (upd a n x) (upd b n y) (upd ls n z) i := by
  rcases h with ⟨h1, h2⟩ | ⟨p, q, hp, hq, h1, h2, h3⟩
  · refine Or.inl ⟨?_, ?_⟩
    · rw [pk_un (by omega)]; exact h1
    · rw [pk_un (by omega)]; exact h2
  · refine Or.inr ⟨p, q, hp, hq, ?_, ?_, ?_⟩
    · rw [pk_un (by omega)]; exact h1
    · rw [pk_un (by omega)]; exact h2
    · rw [pk_un (show i ≠ n by omega), pk_un (show p ≠ n by omega), pk_un (show q ≠ n by omega)]; exact h3
def gi_dn : Nat → Int32
  | 0 => -1
  | m + 1 => nI m
theorem gi_dn1 (m : Nat) : nI m + (-1) = gi_dn m := by
  cases m with
  | zero => decide
  | succ m => exact pk_m1 m
theorem gi_yLn {post : Int32 → Prop} {n i : Nat} {a b ls o : Nat → Int32} (hn : n ≤ 7) (hG : ∀ i, i < n → gi_G a b ls i) (hp : post (ls i)) : ∀ k, k ≤ n → ∀ x, gi_LI ls i k x → wY_line_16 post (nI n) a b o (k + 1) x (gi_dn k) := by
  intro k
  induction k with
  | zero =>
    intro _ x h
    rw [← gi_LIe h] at hp
    exact br_t (show (-1 : Int32) < 0 by decide) hp
  | succ m ih =>
    intro hm x h
    have hin : vp_in (nI m) 7 := vp_in_nI (by omega) (by omega)
    have hc : (nI m).toNatClampNeg = m := nI_clamp (by omega)
    have g := hG m (by omega)
    show wY_line_16 post (nI n) a b o (m + 1 + 1) x (nI m)
    refine br_f (nI_pos (by omega)) ?_
    by_cases z : bt x m = true
    · refine br_t ((gi_tb x m (by omega)).mpr z) ⟨hin, ?_⟩
      rcases g with ⟨g1, g2⟩ | ⟨p, q, hpm, hqm, g1, g2, g3⟩
      · refine br_t (by rw [hc, g1]; decide) (nm_r (gi_dn1 m) ?_)
        exact ih (by omega) x (gi_LI0 (hG m (by omega)) (by omega) h (Or.inr g1))
      · refine br_f (by rw [hc, g1]; exact nI_pos (by omega)) ⟨hin, hin, nm_r (e' := x ||| ((1 : Int32) <<< (nI p &&& 31) ||| (1 : Int32) <<< (nI q &&& 31))) (by rw [hc, g1, g2]) (nm_r (gi_dn1 m) ?_)⟩
        exact ih (by omega) _ (gi_LI1 hpm hqm (by omega) g3 (gi_self (hG p (by omega)) (by omega)) (gi_self (hG q (by omega)) (by omega)) h z)
    · refine br_f (fun e => z ((gi_tb x m (by omega)).mp e)) (nm_r (gi_dn1 m) ?_)
      exact ih (by omega) x (gi_LI0 g (by omega) h (Or.inl z))
theorem i_up {k : Nat} {u : SX} {v : SY} (h : i_Rel k u v) : i_Rel (k + 5) u v := h
theorem i_vc0 : wpX_init (fun u => wpY_init (fun v => i_Rel 0 u v)) := by
  show i_Rel 0 (0, 0, (fun _ => 0), (fun _ => 0), (fun _ => 0), (fun _ => 0)) (0, (fun _ => 0), (fun _ => 0), (fun _ => 0))
  exact ⟨0, (fun _ => 0), (fun _ => 0), (fun _ => 0), (fun _ => 0), by omega, fun i h => absurd h (by omega), rfl, rfl⟩
theorem i_vc_founder {k : Nat} {u : SX} {v : SY} (I : i_Rel k u v) (hk : k + 5 ≤ 2560) : wpX_founder (fun r u' => wpY_founder (fun r' v' => r' = r ∧ i_Rel (k + 5) u' v') v) u := by
  obtain ⟨n, a, b, ls, o, hn, hG, rfl, rfl⟩ := I
  have hP : ∀ i, i < n → gi_P a b i := fun i hi => gi_GP (hG i hi)
  have hR : i_Rel (k + 5) (nI n, nI (gi_cc a n), a, b, ls, o) (nI n, a, b, o) := ⟨n, a, b, ls, o, hn, hG, rfl, rfl⟩
  by_cases h7 : n < 7
  · have hin : vp_in (nI n) 7 := vp_in_nI h7 (by omega)
    have hc : (nI n).toNatClampNeg = n := nI_clamp (by omega)
    have hne : ¬ nI n = 7 := fun e => absurd ((nI_eq (b := 7) (by omega) (by omega)).mp e) (by omega)
    have hlt : nI n < 7 := nI_lt (b := 7) h7 (by decide)
    unfold wpX_founder
    dsimp only
    refine br_t hlt ⟨hin, nm_r (e' := upd a n (-1)) (by rw [hc]) ⟨hin, nm_r (e' := upd b n (-1)) (by rw [hc]) ⟨hin, nm_r (e' := upd ls n ((1 : Int32) <<< (nI n &&& 31))) (by rw [hc]) (nm_r (nI_1 n) ?_)⟩⟩⟩
    unfold wpY_founder
    dsimp only
    refine br_f hne ⟨hin, nm_r (e' := upd a n (-1)) (by rw [hc]) ⟨hin, nm_r (e' := upd b n (-1)) (by rw [hc]) (nm_r (nI_1 n) ⟨nI_pred n, ?_⟩)⟩⟩
    refine ⟨n + 1, upd a n (-1), upd b n (-1), upd ls n ((1 : Int32) <<< (nI n &&& 31)), o, by omega, ?_, ?_, rfl⟩
    · intro i hi
      by_cases e : i = n
      · rw [e]; exact Or.inl ⟨pk_us, pk_us⟩
      · exact gi_Gup (by omega) (hG i (by omega))
    · rw [gi_ccF pk_us, gi_cc_upd n (Nat.le_refl n)]
  · have e : n = 7 := by omega
    have hge : ¬ nI n < 7 := nI_nlt (b := 7) (by omega) (by omega)
    have heq : nI n = 7 := by rw [e]; rfl
    unfold wpX_founder
    dsimp only
    refine br_f hge ?_
    unfold wpY_founder
    dsimp only
    exact br_t heq ⟨rfl, hR⟩
theorem i_vc_child {k : Nat} {u : SX} {v : SY} (I : i_Rel k u v) (hk : k + 5 ≤ 2560) (v1 : Int32) (v2 : Int32) : wpX_child (fun r u' => wpY_child (fun r' v' => r' = r ∧ i_Rel (k + 5) u' v') v v1 v2) u v1 v2 := by
  obtain ⟨n, a, b, ls, o, hn, hG, rfl, rfl⟩ := I
  have hP : ∀ i, i < n → gi_P a b i := fun i hi => gi_GP (hG i hi)
  have hR : i_Rel (k + 5) (nI n, nI (gi_cc a n), a, b, ls, o) (nI n, a, b, o) := ⟨n, a, b, ls, o, hn, hG, rfl, rfl⟩
  by_cases m1 : gi_mem v1 n
  · by_cases m2 : gi_mem v2 n
    · obtain ⟨i, hi, rfl⟩ := m1
      obtain ⟨j, hj, rfl⟩ := m2
      by_cases h7 : n < 7
      · have hin : vp_in (nI n) 7 := vp_in_nI h7 (by omega)
        have hini : vp_in (nI i) 7 := vp_in_nI (by omega) (by omega)
        have hinj : vp_in (nI j) 7 := vp_in_nI (by omega) (by omega)
        have hc : (nI n).toNatClampNeg = n := nI_clamp (by omega)
        have hci : (nI i).toNatClampNeg = i := nI_clamp (by omega)
        have hcj : (nI j).toNatClampNeg = j := nI_clamp (by omega)
        have hcc : gi_cc a n < 6 := gi_cc_s6 h7 hP
        have hne : ¬ nI n = 7 := fun e => absurd ((nI_eq (b := 7) (by omega) (by omega)).mp e) (by omega)
        have hge : ¬ (7 : Int32) ≤ nI n := nI_ge (b := 7) h7 (by decide)
        have hc6 : nI (gi_cc a n) < 6 := nI_lt (b := 6) hcc (by decide)
        have hn6 : ¬ nI (gi_cc a n) = 6 := fun e => absurd ((nI_eq (b := 6) (by omega) (by omega)).mp e) (by omega)
        unfold wpX_child
        dsimp only
        refine gi_xM1 hn hi (br_f gi_n10 (gi_xM1 hn hj (br_f gi_n10 (br_f hge (br_t hc6 ⟨hin, nm_r (e' := upd a n (nI i)) (by rw [hc]) ⟨hin, nm_r (e' := upd b n (nI j)) (by rw [hc]) ⟨hini, hinj, hin, nm_r (e' := upd ls n (((1 : Int32) <<< (nI n &&& 31) ||| ls i) ||| ls j)) (by rw [hc, hci, hcj]) (nm_r (nI_1 n) (nm_r (nI_1 _) ?_))⟩⟩⟩)))))
        unfold wpY_child
        dsimp only
        refine gi_yM1 hn hi (br_f gi_n10 (gi_yM1 hn hj (br_f gi_n10 (br_f hne (gi_yK hn hP (br_f hn6 ⟨hin, nm_r (e' := upd a n (nI i)) (by rw [hc]) ⟨hin, nm_r (e' := upd b n (nI j)) (by rw [hc]) (nm_r (nI_1 n) ⟨nI_pred n, ?_⟩)⟩⟩))))))
        refine ⟨n + 1, upd a n (nI i), upd b n (nI j), upd ls n (((1 : Int32) <<< (nI n &&& 31) ||| ls i) ||| ls j), o, by omega, ?_, ?_, rfl⟩
        · intro t ht
          by_cases e : t = n
          · rw [e]
            refine Or.inr ⟨i, j, hi, hj, pk_us, pk_us, ?_⟩
            rw [pk_us, pk_un (show i ≠ n by omega), pk_un (show j ≠ n by omega)]
          · exact gi_Gup (by omega) (hG t (by omega))
        · rw [gi_ccC (show ¬ upd a n (nI i) n = -1 by rw [pk_us]; exact gi_m1 (by omega)), gi_cc_upd n (Nat.le_refl n)]
      · have e : n = 7 := by omega
        have hge : (7 : Int32) ≤ nI n := nI_le (a := 7) (by omega) (by omega)
        have heq : nI n = 7 := by rw [e]; rfl
        unfold wpX_child
        dsimp only
        refine gi_xM1 hn hi (br_f gi_n10 (gi_xM1 hn hj (br_f gi_n10 (br_t hge ?_))))
        unfold wpY_child
        dsimp only
        exact gi_yM1 hn hi (br_f gi_n10 (gi_yM1 hn hj (br_f gi_n10 (br_t heq ⟨rfl, hR⟩))))
    · obtain ⟨i, hi, rfl⟩ := m1
      unfold wpX_child
      dsimp only
      refine gi_xM1 hn hi (br_f gi_n10 (gi_xM0 hn m2 (br_t rfl ?_)))
      unfold wpY_child
      dsimp only
      exact gi_yM1 hn hi (br_f gi_n10 (gi_yM0 hn m2 (br_t rfl ⟨rfl, hR⟩)))
  · unfold wpX_child
    dsimp only
    refine gi_xM0 hn m1 (br_t rfl ?_)
    unfold wpY_child
    dsimp only
    exact gi_yM0 hn m1 (br_t rfl ⟨rfl, hR⟩)
theorem i_vc_drop {k : Nat} {u : SX} {v : SY} (I : i_Rel k u v) (hk : k + 5 ≤ 2560) : wpX_drop (fun r u' => wpY_drop (fun r' v' => r' = r ∧ i_Rel (k + 5) u' v') v) u := by
  obtain ⟨n, a, b, ls, o, hn, hG, rfl, rfl⟩ := I
  have hP : ∀ i, i < n → gi_P a b i := fun i hi => gi_GP (hG i hi)
  have hR : i_Rel (k + 5) (nI n, nI (gi_cc a n), a, b, ls, o) (nI n, a, b, o) := ⟨n, a, b, ls, o, hn, hG, rfl, rfl⟩
  cases n with
  | zero =>
    unfold wpX_drop
    dsimp only
    refine br_t nI_0 ?_
    unfold wpY_drop
    dsimp only
    exact br_t nI_0 ⟨rfl, hR⟩
  | succ m =>
    have h0 : ¬ nI (m + 1) = 0 := nI_ne0 (by omega) (by omega)
    have hY : wpY_drop (fun r' v' => r' = nI m ∧ i_Rel (k + 5) (nI m, nI (gi_cc a m), a, b, ls, o) v') (nI (m + 1), a, b, o) := by
      unfold wpY_drop
      dsimp only
      exact br_f h0 (nm_r (nI_pred m) ⟨rfl, m, a, b, ls, o, by omega, fun i hi => hG i (by omega), rfl, rfl⟩)
    unfold wpX_drop
    dsimp only
    refine br_f h0 (nm_r (nI_pred m) ?_)
    by_cases hf : a m = -1
    · refine gi_xF1 (by omega) hf (br_f gi_n10 ?_)
      rw [gi_ccF hf]
      exact hY
    · refine gi_xF0 (by omega) hf (br_t rfl (nm_r (e' := nI (gi_cc a m)) (by rw [gi_ccC hf, nI_pred]) ?_))
      exact hY
theorem i_vc_members {k : Nat} {u : SX} {v : SY} (I : i_Rel k u v) (hk : k + 5 ≤ 2560) : wpX_members (fun r => wpY_members (fun r' => r' = r ∧ i_Rel (k + 5) u v) v) u := by
  obtain ⟨n, a, b, ls, o, hn, hG, rfl, rfl⟩ := I
  have hP : ∀ i, i < n → gi_P a b i := fun i hi => gi_GP (hG i hi)
  have hR : i_Rel (k + 5) (nI n, nI (gi_cc a n), a, b, ls, o) (nI n, a, b, o) := ⟨n, a, b, ls, o, hn, hG, rfl, rfl⟩
  show nI n = nI n ∧ _
  exact ⟨rfl, hR⟩
theorem i_vc_ways {k : Nat} {u : SX} {v : SY} (I : i_Rel k u v) (hk : k + 5 ≤ 2560) : wpX_ways (fun r => wpY_ways (fun r' => r' = r ∧ i_Rel (k + 5) u v) v) u := by
  obtain ⟨n, a, b, ls, o, hn, hG, rfl, rfl⟩ := I
  have hP : ∀ i, i < n → gi_P a b i := fun i hi => gi_GP (hG i hi)
  have hR : i_Rel (k + 5) (nI n, nI (gi_cc a n), a, b, ls, o) (nI n, a, b, o) := ⟨n, a, b, ls, o, hn, hG, rfl, rfl⟩
  exact gi_xW hn hP (gi_yW hn hP ⟨rfl, hR⟩)
theorem i_vc_inbred {k : Nat} {u : SX} {v : SY} (I : i_Rel k u v) (hk : k + 5 ≤ 2560) (v1 : Int32) : wpX_inbred (fun r u' => wpY_inbred (fun r' v' => r' = r ∧ i_Rel (k + 5) u' v') v v1) u v1 := by
  obtain ⟨n, a, b, ls, o, hn, hG, rfl, rfl⟩ := I
  have hP : ∀ i, i < n → gi_P a b i := fun i hi => gi_GP (hG i hi)
  have hR : i_Rel (k + 5) (nI n, nI (gi_cc a n), a, b, ls, o) (nI n, a, b, o) := ⟨n, a, b, ls, o, hn, hG, rfl, rfl⟩
  by_cases hm : gi_mem v1 n
  · obtain ⟨i, hi, rfl⟩ := hm
    exact gi_Xg_inbred hn hP hi (gi_Yg_inbred hn hP hi (gi_fin hn hG (gi_run_eq (fun w o c => rfl) _ _ _ _)))
  · exact gi_Xb_inbred hn hm (gi_Yb_inbred hn hm ⟨rfl, hR⟩)
theorem i_vc_two {k : Nat} {u : SX} {v : SY} (I : i_Rel k u v) (hk : k + 5 ≤ 2560) (v1 : Int32) (v2 : Int32) : wpX_two (fun r u' => wpY_two (fun r' v' => r' = r ∧ i_Rel (k + 5) u' v') v v1 v2) u v1 v2 := by
  obtain ⟨n, a, b, ls, o, hn, hG, rfl, rfl⟩ := I
  have hP : ∀ i, i < n → gi_P a b i := fun i hi => gi_GP (hG i hi)
  have hR : i_Rel (k + 5) (nI n, nI (gi_cc a n), a, b, ls, o) (nI n, a, b, o) := ⟨n, a, b, ls, o, hn, hG, rfl, rfl⟩
  by_cases hm : gi_mem v1 n ∧ gi_mem v2 n
  · obtain ⟨⟨i, hi, rfl⟩, ⟨j, hj, rfl⟩⟩ := hm
    exact gi_Xg_two hn hP hi hj (gi_Yg_two hn hP hi hj (gi_fin hn hG (gi_run_eq (fun w o c => gi_K2 _ i j c) _ _ _ _)))
  · exact gi_Xb_two hn hm (gi_Yb_two hn hm ⟨rfl, hR⟩)
theorem i_vc_three {k : Nat} {u : SX} {v : SY} (I : i_Rel k u v) (hk : k + 5 ≤ 2560) (v1 : Int32) (v2 : Int32) (v3 : Int32) : wpX_three (fun r u' => wpY_three (fun r' v' => r' = r ∧ i_Rel (k + 5) u' v') v v1 v2 v3) u v1 v2 v3 := by
  obtain ⟨n, a, b, ls, o, hn, hG, rfl, rfl⟩ := I
  have hP : ∀ i, i < n → gi_P a b i := fun i hi => gi_GP (hG i hi)
  have hR : i_Rel (k + 5) (nI n, nI (gi_cc a n), a, b, ls, o) (nI n, a, b, o) := ⟨n, a, b, ls, o, hn, hG, rfl, rfl⟩
  by_cases hm : gi_mem v1 n ∧ gi_mem v2 n ∧ gi_mem v3 n
  · obtain ⟨⟨i, hi, rfl⟩, ⟨j, hj, rfl⟩, ⟨k3, hk3, rfl⟩⟩ := hm
    exact gi_Xg_three hn hP hi hj hk3 (gi_Yg_three hn hP hi hj hk3 (gi_fin hn hG (gi_run_eq (fun w o c => gi_K3 _ i j k3 c) _ _ _ _)))
  · exact gi_Xb_three hn hm (gi_Yb_three hn hm ⟨rfl, hR⟩)
theorem i_vc_four {k : Nat} {u : SX} {v : SY} (I : i_Rel k u v) (hk : k + 5 ≤ 2560) (v1 : Int32) (v2 : Int32) (v3 : Int32) (v4 : Int32) : wpX_four (fun r u' => wpY_four (fun r' v' => r' = r ∧ i_Rel (k + 5) u' v') v v1 v2 v3 v4) u v1 v2 v3 v4 := by
  obtain ⟨n, a, b, ls, o, hn, hG, rfl, rfl⟩ := I
  have hP : ∀ i, i < n → gi_P a b i := fun i hi => gi_GP (hG i hi)
  have hR : i_Rel (k + 5) (nI n, nI (gi_cc a n), a, b, ls, o) (nI n, a, b, o) := ⟨n, a, b, ls, o, hn, hG, rfl, rfl⟩
  by_cases hm : gi_mem v1 n ∧ gi_mem v2 n ∧ gi_mem v3 n ∧ gi_mem v4 n
  · obtain ⟨⟨i, hi, rfl⟩, ⟨j, hj, rfl⟩, ⟨k3, hk3, rfl⟩, ⟨l, hl, rfl⟩⟩ := hm
    exact gi_Xg_four hn hP hi hj hk3 hl (gi_Yg_four hn hP hi hj hk3 hl (gi_fin hn hG (gi_run_eq (fun w o c => gi_K4 _ i j k3 l c) _ _ _ _)))
  · exact gi_Xb_four hn hm (gi_Yb_four hn hm ⟨rfl, hR⟩)
theorem i_vc_pairs {k : Nat} {u : SX} {v : SY} (I : i_Rel k u v) (hk : k + 5 ≤ 2560) (v1 : Int32) (v2 : Int32) (v3 : Int32) (v4 : Int32) : wpX_pairs (fun r u' => wpY_pairs (fun r' v' => r' = r ∧ i_Rel (k + 5) u' v') v v1 v2 v3 v4) u v1 v2 v3 v4 := by
  obtain ⟨n, a, b, ls, o, hn, hG, rfl, rfl⟩ := I
  have hP : ∀ i, i < n → gi_P a b i := fun i hi => gi_GP (hG i hi)
  have hR : i_Rel (k + 5) (nI n, nI (gi_cc a n), a, b, ls, o) (nI n, a, b, o) := ⟨n, a, b, ls, o, hn, hG, rfl, rfl⟩
  by_cases hm : gi_mem v1 n ∧ gi_mem v2 n ∧ gi_mem v3 n ∧ gi_mem v4 n
  · obtain ⟨⟨i, hi, rfl⟩, ⟨j, hj, rfl⟩, ⟨k3, hk3, rfl⟩, ⟨l, hl, rfl⟩⟩ := hm
    exact gi_Xg_pairs hn hP hi hj hk3 hl (gi_Yg_pairs hn hP hi hj hk3 hl (gi_fin hn hG (gi_run_eq (fun w o c => gi_Kp _ i j k3 l c) _ _ _ _)))
  · exact gi_Xb_pairs hn hm (gi_Yb_pairs hn hm ⟨rfl, hR⟩)
theorem i_vc_related {k : Nat} {u : SX} {v : SY} (I : i_Rel k u v) (hk : k + 5 ≤ 2560) (v1 : Int32) (v2 : Int32) : wpX_related (fun r u' => wpY_related (fun r' v' => r' = r ∧ i_Rel (k + 5) u' v') v v1 v2) u v1 v2 := by
  obtain ⟨n, a, b, ls, o, hn, hG, rfl, rfl⟩ := I
  have hP : ∀ i, i < n → gi_P a b i := fun i hi => gi_GP (hG i hi)
  have hR : i_Rel (k + 5) (nI n, nI (gi_cc a n), a, b, ls, o) (nI n, a, b, o) := ⟨n, a, b, ls, o, hn, hG, rfl, rfl⟩
  by_cases hm : gi_mem v1 n ∧ gi_mem v2 n
  · obtain ⟨⟨i, hi, rfl⟩, ⟨j, hj, rfl⟩⟩ := hm
    exact gi_Xg_related hn hP hi hj (gi_Yg_related hn hP hi hj (gi_fin hn hG (gi_run_eq (fun w o c => gi_Kr _ i j c) _ _ _ _)))
  · exact gi_Xb_related hn hm (gi_Yb_related hn hm ⟨rfl, hR⟩)
theorem i_vc_state {k : Nat} {u : SX} {v : SY} (I : i_Rel k u v) (hk : k + 5 ≤ 2560) (v1 : Int32) (v2 : Int32) (v3 : Int32) : wpX_state (fun r u' => wpY_state (fun r' v' => r' = r ∧ i_Rel (k + 5) u' v') v v1 v2 v3) u v1 v2 v3 := by
  obtain ⟨n, a, b, ls, o, hn, hG, rfl, rfl⟩ := I
  have hP : ∀ i, i < n → gi_P a b i := fun i hi => gi_GP (hG i hi)
  have hR : i_Rel (k + 5) (nI n, nI (gi_cc a n), a, b, ls, o) (nI n, a, b, o) := ⟨n, a, b, ls, o, hn, hG, rfl, rfl⟩
  by_cases hm : gi_mem v1 n ∧ gi_mem v2 n
  · obtain ⟨⟨i, hi, rfl⟩, ⟨j, hj, rfl⟩⟩ := hm
    by_cases hs : v3 < 1 ∨ ¬ v3 ≤ 9
    · exact gi_Xs_state hn hi hj hs (gi_Ys_state hn hi hj hs ⟨rfl, hR⟩)
    · have hs1 : ¬ v3 < 1 := fun e => hs (Or.inl e)
      have hs9 : v3 ≤ 9 := Classical.byContradiction fun e => hs (Or.inr e)
      by_cases hij : nI i = nI j
      · exact gi_Xq_state hn hi hj hs1 hs9 hij (gi_Yq_state hn hi hj hs1 hs9 hij ⟨rfl, hR⟩)
      · exact gi_Xg_state hn hP hi hj hs1 hs9 hij (gi_Yg_state hn hP hi hj hs1 hs9 hij (gi_fin hn hG (gi_run_eq (fun w o c => by rw [gi_sXY]) _ _ _ _)))
  · exact gi_Xb_state hn hm (gi_Yb_state hn hm ⟨rfl, hR⟩)
theorem i_vc_from {k : Nat} {u : SX} {v : SY} (I : i_Rel k u v) (hk : k + 5 ≤ 2560) (v1 : Int32) (v2 : Int32) : wpX_from (fun r u' => wpY_from (fun r' v' => r' = r ∧ i_Rel (k + 5) u' v') v v1 v2) u v1 v2 := by
  obtain ⟨n, a, b, ls, o, hn, hG, rfl, rfl⟩ := I
  have hP : ∀ i, i < n → gi_P a b i := fun i hi => gi_GP (hG i hi)
  have hR : i_Rel (k + 5) (nI n, nI (gi_cc a n), a, b, ls, o) (nI n, a, b, o) := ⟨n, a, b, ls, o, hn, hG, rfl, rfl⟩
  by_cases hm : gi_mem v1 n ∧ gi_mem v2 n
  · obtain ⟨⟨i, hi, rfl⟩, ⟨j, hj, rfl⟩⟩ := hm
    by_cases hf : a j = -1
    · refine gi_Xg_from hn hP hi hj hf (gi_Yg_from hn hP hi hj hf (gi_fin hn hG (gi_run_eq (fun w o c => ?_) _ _ _ _)))
      have hv := gi_layV n 0 w o (fun t ht => hP t (by omega)) (by omega) (fun t ht => absurd ht (by omega))
      have e := gi_Kf (o := gi_lay a b n 0 w o) (i := i) (f := j) (by omega) (hv (2 * i) (by omega)) (hv (2 * i + 1) (by omega)) c
      rw [← gi_2, ← gi_21] at e
      exact e
    · exact gi_Xn_from hn hP hi hj hf (gi_Yn_from hn hP hi hj hf ⟨rfl, hR⟩)
  · exact gi_Xb_from hn hm (gi_Yb_from hn hm ⟨rfl, hR⟩)
theorem i_vc_line {k : Nat} {u : SX} {v : SY} (I : i_Rel k u v) (hk : k + 5 ≤ 2560) (v1 : Int32) : wpX_line (fun r => wpY_line (fun r' => r' = r ∧ i_Rel (k + 5) u v) v v1) u v1 := by
  obtain ⟨n, a, b, ls, o, hn, hG, rfl, rfl⟩ := I
  have hP : ∀ i, i < n → gi_P a b i := fun i hi => gi_GP (hG i hi)
  have hR : i_Rel (k + 5) (nI n, nI (gi_cc a n), a, b, ls, o) (nI n, a, b, o) := ⟨n, a, b, ls, o, hn, hG, rfl, rfl⟩
  by_cases m1 : gi_mem v1 n
  · obtain ⟨i, hi, rfl⟩ := m1
    have hc : (nI i).toNatClampNeg = i := nI_clamp (by omega)
    unfold wpX_line
    dsimp only
    refine gi_xM1 hn hi (br_f gi_n10 ⟨vp_in_nI (by omega) (by omega), ?_⟩)
    rw [hc]
    unfold wpY_line
    dsimp only
    refine gi_yM1 hn hi (br_f gi_n10 (nm_e ⟨i + 1 + 1, ?_⟩))
    exact gi_yLn hn hG ⟨rfl, hR⟩ (i + 1) (by omega) _ (gi_LIi (by omega) (gi_self (hG i hi) (by omega)))
  · unfold wpX_line
    dsimp only
    refine gi_xM0 hn m1 (br_t rfl ?_)
    unfold wpY_line
    dsimp only
    exact gi_yM0 hn m1 (br_t rfl ⟨rfl, hR⟩)
