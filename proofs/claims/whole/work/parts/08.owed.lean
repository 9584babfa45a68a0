/-! the owed statements -/
def i_Rel (k : Nat) (u : SX) (v : SY) : Prop := cf_R u v
theorem i_up {k : Nat} {u : SX} {v : SY} (h : i_Rel k u v) : i_Rel (k + 3) u v := h
theorem i_vc0 : wpX_init (fun u => wpY_init (fun v => i_Rel 0 u v)) :=
  ⟨0, 0, fun _ => 0, fun _ => 0, fun _ => 0, fun _ => 0, rfl, rfl, by omega, fun i _ => b_0 i, fun i h => absurd h (by omega), fun i h => absurd h (by omega), fun i h => absurd h (by omega)⟩
theorem i_vc_literal {k : Nat} {u : SX} {v : SY} (I : i_Rel k u v) (hk : k + 3 ≤ 1536) (v1 : Int32) : wpX_literal (fun r u' => wpY_literal (fun r' v' => r' = r ∧ i_Rel (k + 3) u' v') v v1) u v1 := by
  have J := I
  obtain ⟨c, q, T, P, L, B, rfl, rfl, hc, hq, hT, hH, hP⟩ := I
  by_cases h0 : v1 < 0
  · exact br_t h0 (br_t h0 ⟨rfl, J⟩)
  · obtain ⟨j, hj, rfl⟩ := nI_of h0
    by_cases h10 : j < 10
    · have hg := cf_sm_d h10 hq
      have e := cf_ct10 hg
      refine br_f h0 (pk_lt j 10 (fun _ => nm_e (lx_bits (br_c (fun z => ?_) (fun z => ?_)))) (fun h => absurd h (by omega)))
      · refine br_f h0 (pk_le j 9 (fun _ => nm_e (ly_size (br_t (by rw [← e]; exact z) (ly_size ⟨by rw [e], ?_⟩)))) (fun h => absurd h (by omega)))
        exact ⟨c, _, T, P, L, B, rfl, rfl, hc, hg, hT, hH, hP⟩
      · exact br_f h0 (pk_le j 9 (fun _ => nm_e (ly_size (br_f (by rw [← e]; exact z) ⟨rfl, J⟩))) (fun h => absurd h (by omega)))
    · exact br_f h0 (pk_lt j 10 (fun h => absurd h (by omega)) (fun _ => br_f h0 (pk_le j 9 (fun h => absurd h (by omega)) (fun _ => ⟨rfl, J⟩))))
theorem i_vc_add {k : Nat} {u : SX} {v : SY} (I : i_Rel k u v) (hk : k + 3 ≤ 1536) : wpX_add (fun r u' => wpY_add (fun r' v' => r' = r ∧ i_Rel (k + 3) u' v') v) u := by
  have J := I
  obtain ⟨c, q, T, P, L, B, rfl, rfl, hc, hq, hT, hH, hP⟩ := I
  by_cases hz : q = 0
  · exact br_t hz (br_t hz ⟨rfl, J⟩)
  · by_cases h9 : c < 9
    · have hi : vp_in (nI c) 9 := vp_in_nI h9 (by omega)
      have eu : ∀ (a : Nat → Int32) (x : Int32), upd a (nI c).toNatClampNeg x = upd a c x := by
        intro a x
        rw [nI_clamp (by omega)]
      refine br_f hz (pk_lt c 9 (fun _ => lx_to ⟨hi, nm_r (eu T (cf_to q)) ⟨hi, nm_r (eu P 1) (nm_r (nI_1 c) ?_)⟩⟩) (fun h => absurd h (by omega)))
      refine br_f hz (pk_le c 8 (fun _ => ⟨hi, nm_r (eu L q) ⟨hi, nm_r (eu P 1) (nm_r (nI_1 c) ⟨rfl, ?_⟩)⟩⟩) (fun h => absurd h (by omega)))
      refine ⟨c + 1, 0, _, _, _, B, rfl, rfl, by omega, fun i _ => b_0 i, fun i hi => ?_, fun i hi n hn => ?_, fun i hi => ?_⟩
      · by_cases z : i = c
        · rw [z, pk_us]; exact cf_to_0 hz hq
        · rw [pk_un z]; exact hT i (by omega)
      · by_cases z : i = c
        · rw [z, pk_us, pk_us]; exact cf_to_b hn
        · rw [pk_un z, pk_un z]; exact hH i (by omega) n hn
      · by_cases z : i = c
        · rw [z, pk_us]; exact ⟨1, by omega, by omega, rfl⟩
        · rw [pk_un z]; exact hP i (by omega)
    · exact br_f hz (pk_lt c 9 (fun h => absurd h (by omega)) (fun _ => br_f hz (pk_le c 8 (fun h => absurd h (by omega)) (fun _ => ⟨rfl, J⟩))))
theorem i_vc_clear {k : Nat} {u : SX} {v : SY} (I : i_Rel k u v) (hk : k + 3 ≤ 1536) : wpX_clear (fun r u' => wpY_clear (fun r' v' => r' = r ∧ i_Rel (k + 3) u' v') v) u := by
  obtain ⟨c, q, T, P, L, B, rfl, rfl, hc, hq, hT, hH, hP⟩ := I
  unfold wpX_clear wpY_clear
  dsimp only
  refine lx_bits ?_
  refine ly_size ⟨by rw [cf_ct10 hq], ?_⟩
  exact ⟨c, 0, T, P, L, B, rfl, rfl, hc, fun i _ => b_0 i, hT, hH, hP⟩
theorem i_vc_remove {k : Nat} {u : SX} {v : SY} (I : i_Rel k u v) (hk : k + 3 ≤ 1536) (v1 : Int32) : wpX_remove (fun r u' => wpY_remove (fun r' v' => r' = r ∧ i_Rel (k + 3) u' v') v v1) u v1 := by
  have J := I
  obtain ⟨c, q, T, P, L, B, rfl, rfl, hc, hq, hT, hH, hP⟩ := I
  unfold wpX_remove wpY_remove
  dsimp only
  refine lx_ic hc (fun h => br_t rfl ?_) (fun p hp e => br_f (by decide) ?_)
  · exact ly_bad hc (fun _ => br_f (by decide) ⟨rfl, J⟩) (fun j hj e => (cf_ref (by omega) h hj e).elim)
  · subst e
    refine ⟨c - 1 - p + 1, lx_rm (by omega) hc (c - 1 - p) p T P (by omega) ?_⟩
    refine ly_bad hc (fun h => (cf_ref (by omega) h hp rfl).elim) (fun _ _ _ => br_t rfl ?_)
    refine ⟨c - 1 - p + 1, ly_rm (by omega) hc (c - 1 - p) p L P (by omega) ⟨rfl, ?_⟩⟩
    have key : ∀ i, i < c - 1 → ∃ m, m < c ∧ ∀ a : Nat → Int32, cf_sh (c - 1 - p) p a i = a m := by
      intro i hi
      by_cases z : p ≤ i ∧ i < p + (c - 1 - p)
      · exact ⟨i + 1, by omega, fun a => by rw [cf_sh_i, if_pos z]⟩
      · exact ⟨i, by omega, fun a => by rw [cf_sh_i, if_neg z]⟩
    refine ⟨c - 1, q, _, _, _, B, rfl, rfl, by omega, hq, fun i hi => ?_, fun i hi n hn => ?_, fun i hi => ?_⟩
    · obtain ⟨m, hm, ha⟩ := key i hi
      rw [ha]; exact hT m hm
    · obtain ⟨m, hm, ha⟩ := key i hi
      rw [ha, ha]; exact hH m hm n hn
    · obtain ⟨m, hm, ha⟩ := key i hi
      rw [ha]; exact hP m hm
theorem i_vc_price {k : Nat} {u : SX} {v : SY} (I : i_Rel k u v) (hk : k + 3 ≤ 1536) (v1 : Int32) (v2 : Int32) : wpX_price (fun r u' => wpY_price (fun r' v' => r' = r ∧ i_Rel (k + 3) u' v') v v1 v2) u v1 v2 := by
  have J := I
  obtain ⟨c, q, T, P, L, B, rfl, rfl, hc, hq, hT, hH, hP⟩ := I
  unfold wpX_price wpY_price
  dsimp only
  refine lx_ic hc (fun h => br_t rfl ?_) (fun p hp e => br_f (by decide) ?_)
  · exact ly_bad hc (fun _ => br_f (by decide) ⟨rfl, J⟩) (fun j hj e => (cf_ref (by omega) h hj e).elim)
  · subst e
    have hi : vp_in (nI p) 9 := vp_in_nI (by omega) (by omega)
    have eu : ∀ (a : Nat → Int32) (x : Int32), upd a (nI p).toNatClampNeg x = upd a p x := by
      intro a x
      rw [nI_clamp (by omega)]
    by_cases h1 : v2 < 1
    · refine br_t h1 ?_
      exact ly_bad hc (fun h => (cf_ref (by omega) h hp rfl).elim) (fun _ _ _ => br_t rfl (br_t h1 ⟨rfl, J⟩))
    · by_cases h20 : v2 ≤ 20
      · refine br_f h1 (br_t h20 ⟨hi, nm_e ⟨hi, nm_r (eu P v2) ?_⟩⟩)
        refine ly_bad hc (fun h => (cf_ref (by omega) h hp rfl).elim) (fun _ _ _ => br_t rfl (br_f h1 (br_t h20 ⟨hi, nm_e ⟨hi, nm_r (eu P v2) ⟨rfl, ?_⟩⟩⟩)))
        refine ⟨c, q, T, _, L, B, rfl, rfl, hc, hq, hT, hH, fun i hi => ?_⟩
        by_cases z : i = p
        · rw [z, pk_us]
          have h0 : ¬ v2 < 0 := fun h => h1 (Int32.lt_trans h (by decide))
          obtain ⟨m, hm, rfl⟩ := nI_of h0
          have a : ¬ nI m < nI 1 := h1
          have b : nI m ≤ nI 20 := h20
          rw [nI_ltI hm (by omega)] at a
          rw [nI_leI hm (by omega)] at b
          exact ⟨m, by omega, by omega, rfl⟩
        · rw [pk_un z]; exact hP i hi
      · refine br_f h1 (br_f h20 ?_)
        exact ly_bad hc (fun h => (cf_ref (by omega) h hp rfl).elim) (fun _ _ _ => br_t rfl (br_f h1 (br_f h20 ⟨rfl, J⟩)))
theorem i_vc_conditions {k : Nat} {u : SX} {v : SY} (I : i_Rel k u v) (hk : k + 3 ≤ 1536) : wpX_conditions (fun r => wpY_conditions (fun r' => r' = r ∧ i_Rel (k + 3) u v) v) u := by
  have J := I
  obtain ⟨c, q, T, P, L, B, rfl, rfl, hc, hq, hT, hH, hP⟩ := I
  exact ⟨rfl, J⟩
theorem i_vc_possible {k : Nat} {u : SX} {v : SY} (I : i_Rel k u v) (hk : k + 3 ≤ 1536) (v1 : Int32) : wpX_possible (fun r => wpY_possible (fun r' => r' = r ∧ i_Rel (k + 3) u v) v v1) u v1 := by
  have J := I
  obtain ⟨c, q, T, P, L, B, rfl, rfl, hc, hq, hT, hH, hP⟩ := I
  have h9 := cf_p9 hc
  unfold wpX_possible wpY_possible
  dsimp only
  refine lx_is hc (fun h => br_t rfl ?_) (fun p hp e => br_f (by decide) ?_)
  · exact ly_bs hc (fun _ => br_f (by decide) ⟨rfl, J⟩) (fun j hj e => (cf_ref (by omega) h hj e).elim)
  · subst e
    refine lx_po hc (cf_br (fun e => ?_) (fun e => ?_))
    · refine ly_bs hc (fun h => (cf_ref (by omega) h hp rfl).elim) (fun _ _ _ => br_t rfl ?_)
      exact ly_fi hc hH (br_f (Int32.not_le.mpr (cf_fi_p.mpr e)) ⟨rfl, J⟩)
    · refine ly_bs hc (fun h => (cf_ref (by omega) h hp rfl).elim) (fun _ _ _ => br_t rfl ?_)
      refine ly_fi hc hH (br_t (Int32.not_lt.mp (fun z => ?_)) ⟨rfl, J⟩)
      rw [cf_fi_p.mp z] at e
      exact Bool.noConfusion e
theorem i_vc_model {k : Nat} {u : SX} {v : SY} (I : i_Rel k u v) (hk : k + 3 ≤ 1536) (v1 : Int32) : wpX_model (fun r => wpY_model (fun r' => r' = r ∧ i_Rel (k + 3) u v) v v1) u v1 := by
  have J := I
  obtain ⟨c, q, T, P, L, B, rfl, rfl, hc, hq, hT, hH, hP⟩ := I
  have h9 := cf_p9 hc
  unfold wpX_model wpY_model
  dsimp only
  refine lx_is hc (fun h => br_t rfl ?_) (fun p hp e => br_f (by decide) ?_)
  · exact ly_bs hc (fun _ => br_f (by decide) ⟨rfl, J⟩) (fun j hj e => (cf_ref (by omega) h hj e).elim)
  · subst e
    refine lx_ts hc ⟨33, lx_mo 32 0 rfl ?_⟩
    refine ly_bs hc (fun h => (cf_ref (by omega) h hp rfl).elim) (fun _ _ _ => br_t rfl ?_)
    exact ly_fi hc hH ⟨rfl, J⟩
theorem i_vc_kernels {k : Nat} {u : SX} {v : SY} (I : i_Rel k u v) (hk : k + 3 ≤ 1536) : wpX_kernels (fun r => wpY_kernels (fun r' v' => r' = r ∧ i_Rel (k + 3) u v') v) u := by
  obtain ⟨c, q, T, P, L, B, rfl, rfl, hc, hq, hT, hH, hP⟩ := I
  have h9 := cf_p9 hc
  unfold wpX_kernels wpY_kernels
  dsimp only
  refine lx_ac hc ⟨2 ^ c + 1, lx_kns hc (2 ^ c) 0 0 (by omega) ?_⟩
  exact ly_knl hc hH (fun B' => ⟨(cf_li_n (by decide) _ _ _ (by omega)).trans (if_pos rfl), ⟨c, q, T, P, L, B', rfl, rfl, hc, hq, hT, hH, hP⟩⟩)
theorem i_vc_kernel {k : Nat} {u : SX} {v : SY} (I : i_Rel k u v) (hk : k + 3 ≤ 1536) (v1 : Int32) : wpX_kernel (fun r => wpY_kernel (fun r' v' => r' = r ∧ i_Rel (k + 3) u v') v v1) u v1 := by
  have J := I
  obtain ⟨c, q, T, P, L, B, rfl, rfl, hc, hq, hT, hH, hP⟩ := I
  have h9 := cf_p9 hc
  unfold wpX_kernel wpY_kernel
  dsimp only
  refine lx_ac hc ⟨2 ^ c + 1, lx_kni hc (2 ^ c) 0 0 (by omega) ?_⟩
  refine br_c (fun h => ?_) (fun h => ?_)
  · exact ly_knl hc hH (fun B' => ⟨cf_li_c (fun k => if_neg (fun z => by rw [z] at h; exact absurd h (by decide))) _ _ _, ⟨c, q, T, P, L, B', rfl, rfl, hc, hq, hT, hH, hP⟩⟩)
  · exact ⟨(cf_li_n (e := fun _ => -1) (Int32.not_le.mp h) (2 ^ c) 0 0 (by omega)).symm, J⟩
theorem i_vc_corrections {k : Nat} {u : SX} {v : SY} (I : i_Rel k u v) (hk : k + 3 ≤ 1536) : wpX_corrections (fun r => wpY_corrections (fun r' v' => r' = r ∧ i_Rel (k + 3) u v') v) u := by
  obtain ⟨c, q, T, P, L, B, rfl, rfl, hc, hq, hT, hH, hP⟩ := I
  have h9 := cf_p9 hc
  unfold wpX_corrections wpY_corrections
  dsimp only
  refine lx_ac hc ⟨2 ^ c + 1, lx_cos hc (2 ^ c) 0 0 (by omega) ?_⟩
  exact ly_col hc hH (fun B' => ⟨(cf_li_n (by decide) _ _ _ (by omega)).trans (if_pos rfl), ⟨c, q, T, P, L, B', rfl, rfl, hc, hq, hT, hH, hP⟩⟩)
theorem i_vc_correction {k : Nat} {u : SX} {v : SY} (I : i_Rel k u v) (hk : k + 3 ≤ 1536) (v1 : Int32) : wpX_correction (fun r => wpY_correction (fun r' v' => r' = r ∧ i_Rel (k + 3) u v') v v1) u v1 := by
  have J := I
  obtain ⟨c, q, T, P, L, B, rfl, rfl, hc, hq, hT, hH, hP⟩ := I
  have h9 := cf_p9 hc
  unfold wpX_correction wpY_correction
  dsimp only
  refine lx_ac hc ⟨2 ^ c + 1, lx_coi hc (2 ^ c) 0 0 (by omega) ?_⟩
  refine br_c (fun h => ?_) (fun h => ?_)
  · exact ly_col hc hH (fun B' => ⟨cf_li_c (fun k => if_neg (fun z => by rw [z] at h; exact absurd h (by decide))) _ _ _, ⟨c, q, T, P, L, B', rfl, rfl, hc, hq, hT, hH, hP⟩⟩)
  · exact ⟨(cf_li_n (e := fun _ => -1) (Int32.not_le.mp h) (2 ^ c) 0 0 (by omega)).symm, J⟩
theorem i_vc_cheapest {k : Nat} {u : SX} {v : SY} (I : i_Rel k u v) (hk : k + 3 ≤ 1536) : wpX_cheapest (fun r => wpY_cheapest (fun r' v' => r' = r ∧ i_Rel (k + 3) u v') v) u := by
  obtain ⟨c, q, T, P, L, B, rfl, rfl, hc, hq, hT, hH, hP⟩ := I
  unfold wpX_cheapest wpY_cheapest
  dsimp only
  refine lx_lc hc (lx_wo hc ?_)
  refine ly_be hc hH (fun B' => ?_)
  exact ly_wo hc ⟨by rw [cf_best hc hP hT], ⟨c, q, T, P, L, B', rfl, rfl, hc, hq, hT, hH, hP⟩⟩
theorem i_vc_cheapestSet {k : Nat} {u : SX} {v : SY} (I : i_Rel k u v) (hk : k + 3 ≤ 1536) : wpX_cheapestSet (fun r => wpY_cheapestSet (fun r' v' => r' = r ∧ i_Rel (k + 3) u v') v) u := by
  obtain ⟨c, q, T, P, L, B, rfl, rfl, hc, hq, hT, hH, hP⟩ := I
  unfold wpX_cheapestSet wpY_cheapestSet
  dsimp only
  refine lx_lc hc ?_
  exact ly_be hc hH (fun B' => ⟨cf_best hc hP hT, ⟨c, q, T, P, L, B', rfl, rfl, hc, hq, hT, hH, hP⟩⟩)
theorem i_vc_smallest {k : Nat} {u : SX} {v : SY} (I : i_Rel k u v) (hk : k + 3 ≤ 1536) : wpX_smallest (fun r => wpY_smallest (fun r' v' => r' = r ∧ i_Rel (k + 3) u v') v) u := by
  obtain ⟨c, q, T, P, L, B, rfl, rfl, hc, hq, hT, hH, hP⟩ := I
  unfold wpX_smallest wpY_smallest
  dsimp only
  refine lx_ac hc ⟨2 ^ c + 1, lx_sm hc (2 ^ c) 0 0 (by omega) ?_⟩
  exact ly_wk hc hH (fun B' A => ⟨2 ^ c + 1, ly_sm hc A (2 ^ c) 0 0 (by omega) ⟨rfl, ⟨c, q, T, P, L, B', rfl, rfl, hc, hq, hT, hH, hP⟩⟩⟩)
theorem i_vc_blame {k : Nat} {u : SX} {v : SY} (I : i_Rel k u v) (hk : k + 3 ≤ 1536) (v1 : Int32) : wpX_blame (fun r => wpY_blame (fun r' v' => r' = r ∧ i_Rel (k + 3) u v') v v1) u v1 := by
  have J := I
  obtain ⟨c, q, T, P, L, B, rfl, rfl, hc, hq, hT, hH, hP⟩ := I
  unfold wpX_blame wpY_blame
  dsimp only
  refine lx_ic hc (fun h => br_t rfl ?_) (fun p hp e => br_f (by decide) ?_)
  · exact ly_bad hc (fun _ => br_f (by decide) ⟨rfl, J⟩) (fun j hj e => (cf_ref (by omega) h hj e).elim)
  · subst e
    refine lx_ac hc ⟨2 ^ c + 1, lx_bl hc hp (2 ^ c) 0 0 (by omega) ?_⟩
    refine ly_bad hc (fun h => (cf_ref (by omega) h hp rfl).elim) (fun _ _ _ => br_t rfl ?_)
    exact ly_wk hc hH (fun B' A => ⟨2 ^ c + 1, ly_bl hc hp A (2 ^ c) 0 0 (by omega) ⟨rfl, ⟨c, q, T, P, L, B', rfl, rfl, hc, hq, hT, hH, hP⟩⟩⟩)
theorem i_vc_core {k : Nat} {u : SX} {v : SY} (I : i_Rel k u v) (hk : k + 3 ≤ 1536) : wpX_core (fun r => wpY_core (fun r' v' => r' = r ∧ i_Rel (k + 3) u v') v) u := by
  obtain ⟨c, q, T, P, L, B, rfl, rfl, hc, hq, hT, hH, hP⟩ := I
  unfold wpX_core wpY_core
  dsimp only
  refine lx_ac hc ⟨2 ^ c + 1, lx_cr hc (2 ^ c) 0 _ (by omega) ?_⟩
  exact ly_wk hc hH (fun B' A => nm_r (cf_all hc) ⟨2 ^ c + 1, ly_cr hc A (2 ^ c) 0 _ (by omega) ⟨rfl, ⟨c, q, T, P, L, B', rfl, rfl, hc, hq, hT, hH, hP⟩⟩⟩)
theorem i_vc_sort {k : Nat} {u : SX} {v : SY} (I : i_Rel k u v) (hk : k + 3 ≤ 1536) (v1 : Int32) : wpX_sort (fun r => wpY_sort (fun r' v' => r' = r ∧ i_Rel (k + 3) u v') v v1) u v1 := by
  have J := I
  obtain ⟨c, q, T, P, L, B, rfl, rfl, hc, hq, hT, hH, hP⟩ := I
  have h9 := cf_p9 hc
  unfold wpX_sort wpY_sort
  dsimp only
  refine lx_is hc (fun h => br_t rfl ?_) (fun p hp e => br_f (by decide) ?_)
  · exact ly_bs hc (fun _ => br_f (by decide) ⟨rfl, J⟩) (fun j hj e => (cf_ref (by omega) h hj e).elim)
  · subst e
    have hs := cf_sm_n hp
    have hR : ∀ B', i_Rel (k + 3) (nI c, q, T, P) (q, nI c, L, P, B') := fun B' => ⟨c, q, T, P, L, B', rfl, rfl, hc, hq, hT, hH, hP⟩
    refine lx_kn hc (cf_br (fun e => lx_co hc (cf_br (fun e2 => ?_) (fun e2 => ?_))) (fun e => ?_))
    · refine ly_bs hc (fun h => (cf_ref (by omega) h hp rfl).elim) (fun _ _ _ => br_t rfl ?_)
      refine ly_wk hc hH (fun B' A => ly_kn hc A hs ?_)
      rw [e]
      refine br_t rfl (ly_co hc A hs ?_)
      rw [e2]
      exact br_t rfl ⟨rfl, hR B'⟩
    · refine ly_bs hc (fun h => (cf_ref (by omega) h hp rfl).elim) (fun _ _ _ => br_t rfl ?_)
      refine ly_wk hc hH (fun B' A => ly_kn hc A hs ?_)
      rw [e]
      refine br_t rfl (ly_co hc A hs ?_)
      rw [e2]
      exact br_f (by decide) ⟨rfl, hR B'⟩
    · refine ly_bs hc (fun h => (cf_ref (by omega) h hp rfl).elim) (fun _ _ _ => br_t rfl ?_)
      refine ly_wk hc hH (fun B' A => ly_kn hc A hs ?_)
      rw [e]
      exact br_f (by decide) ⟨rfl, hR B'⟩
theorem i_vc_width {k : Nat} {u : SX} {v : SY} (I : i_Rel k u v) (hk : k + 3 ≤ 1536) (v1 : Int32) : wpX_width (fun r => wpY_width (fun r' => r' = r ∧ i_Rel (k + 3) u v) v v1) u v1 := by
  have J := I
  obtain ⟨c, q, T, P, L, B, rfl, rfl, hc, hq, hT, hH, hP⟩ := I
  unfold wpX_width wpY_width
  dsimp only
  refine lx_ic hc (fun h => br_t rfl ?_) (fun p hp e => br_f (by decide) ?_)
  · exact ly_bad hc (fun _ => br_f (by decide) ⟨rfl, J⟩) (fun j hj e => (cf_ref (by omega) h hj e).elim)
  · subst e
    rw [nI_clamp (by omega)]
    refine ⟨vp_in_nI (by omega) (by omega), lx_bits ?_⟩
    refine ly_bad hc (fun h => (cf_ref (by omega) h hp rfl).elim) (fun _ _ _ => br_t rfl ?_)
    refine ⟨33, ly_wd (by omega) 32 0 0 rfl ⟨?_, J⟩⟩
    rw [cf_ct_c 32 0 0 (fun n _ hn => hH p hp n (by omega))]
