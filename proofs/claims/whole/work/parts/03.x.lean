/-! own: X's helping methods, each with a general post -/
theorem cf_nf {b : Bool} (h : ¬ b = false) : b = true := by
  cases b
  · exact absurd rfl h
  · rfl
theorem lx_has {post : Int32 → Prop} {x : Int32} {i : Nat} (hi : i < 32) (h : post (cf_b (bt x i))) : wpX_has post x (nI i) := by
  unfold wpX_has
  rw [cf_ush hi]
  exact cf_br1 (fun e => by rw [e] at h; exact h) (fun e => by rw [e] at h; exact h)
theorem lx_bits4 {post : Int32 → Prop} {x : Int32} : ∀ d j k, j + d = 32 → post (nI (cf_ct (bt x) d j k)) → wX_bits_4 post x (d + 1) (nI k) (nI j) := by
  intro d
  induction d with
  | zero => intro j k hj hp; exact pk_le 32 j (fun _ => hp) (fun h => absurd h (by omega))
  | succ d ih =>
    intro j k hj hp
    have hp : post (nI (cf_ct (bt x) d (j + 1) (if bt x j then k + 1 else k))) := hp
    exact pk_le 32 j (fun h => absurd h (by omega)) (fun _ => lx_has (by omega) (cf_br
      (fun e => nm_r (nI_1 j) (ih (j + 1) k (by omega) (by rw [e, if_neg (by decide)] at hp; exact hp)))
      (fun e => nm_r (nI_1 k) (nm_r (nI_1 j) (ih (j + 1) (k + 1) (by omega) (by rw [e, if_pos rfl] at hp; exact hp))))))
theorem lx_bits {post : Int32 → Prop} {x : Int32} (h : post (nI (cf_ct (bt x) 32 0 0))) : wpX_bits post x :=
  ⟨33, lx_bits4 32 0 0 rfl h⟩
theorem lx_half : ∀ j, j < 10 → nI j >>> ((1 : Int32) &&& 31) = nI (j / 2) ∧ ((nI j &&& 1) = 1 ↔ j % 2 = 1) := by decide +kernel
theorem lx_ne (b c : Bool) : cf_b b = cf_b c ↔ (b != c) = false := by cases b <;> cases c <;> decide
theorem lx_tl22 {post : Int32 → Prop} {J4 : Int32 → Int32 → Prop} {x a : Int32} {j : Nat} (b : Bool) (hj : j < 10) (h : J4 (if (bt x (j / 2) != b) then a ||| ((1 : Int32) <<< (nI j &&& 31)) else a) (nI (j + 1))) : wX_trueLiterals_22 post J4 x a (nI j) (cf_b b) := by
  unfold wX_trueLiterals_22
  rw [(lx_half j hj).1]
  exact lx_has (by omega) (ek_if (lx_ne _ _)
    (fun e => nm_r (nI_1 j) (by rw [e, if_neg (by decide)] at h; exact h))
    (fun e => nm_e (nm_r (nI_1 j) (by rw [cf_nf e, if_pos rfl] at h; exact h))))
theorem lx_tl4 {post : Int32 → Prop} {x : Int32} : ∀ d j a, j + d = 10 → post (cf_fo (fun i a => if (bt x (i / 2) != decide (i % 2 = 1)) then a ||| ((1 : Int32) <<< (nI i &&& 31)) else a) d j a) → wX_trueLiterals_4 post x (d + 1) a (nI j) := by
  intro d
  induction d with
  | zero => intro j a hj hp; exact pk_le 10 j (fun _ => hp) (fun h => absurd h (by omega))
  | succ d ih =>
    intro j a hj hp
    have hr := ih (j + 1) _ (by omega) hp
    dsimp only at hr
    refine pk_le 10 j (fun h => absurd h (by omega)) (fun _ => ek_if (lx_half j (by omega)).2 (fun o => ?_) (fun o => ?_))
    · exact lx_tl22 true (by omega) (by rw [decide_eq_true o] at hr; exact hr)
    · exact lx_tl22 false (by omega) (by rw [decide_eq_false o] at hr; exact hr)
theorem lx_tl {post : Int32 → Prop} {x : Int32} (h : post (cf_tl x)) : wpX_trueLiterals post x :=
  ⟨11, lx_tl4 10 0 0 rfl h⟩
theorem lx_to4 {post : Int32 → Prop} {l : Int32} : ∀ d j a, j + d = 32 → post (cf_fo (fun n a => if cf_ho l (nI n) then a ||| ((1 : Int32) <<< (nI n &&& 31)) else a) d j a) → wX_tableOf_4 post l (d + 1) a (nI j) := by
  intro d
  induction d with
  | zero => intro j a hj hp; exact pk_le 32 j (fun _ => hp) (fun h => absurd h (by omega))
  | succ d ih =>
    intro j a hj hp
    have hr := ih (j + 1) _ (by omega) hp
    dsimp only at hr
    refine pk_le 32 j (fun h => absurd h (by omega)) (fun _ => lx_tl (br_c (fun z => nm_r (nI_1 j) ?_) (fun z => nm_e (nm_r (nI_1 j) ?_))))
    · have e : cf_ho l (nI j) = false := by
        cases e : cf_ho l (nI j)
        · rfl
        · exact absurd z ((cf_tl_ho l (nI j)).mpr e)
      rw [e, if_neg (by decide)] at hr; exact hr
    · rw [(cf_tl_ho l (nI j)).mp z, if_pos rfl] at hr; exact hr
theorem lx_to {post : Int32 → Prop} {l : Int32} (h : post (cf_to l)) : wpX_tableOf post l :=
  ⟨33, lx_to4 32 0 0 rfl h⟩
theorem lx_ts4 {post : Int32 → Prop} {s q : Int32} {T P : Nat → Int32} {c : Nat} (hc : c ≤ 9) : ∀ d j a, j + d = c → post (cf_fo (fun i a => if bt s i then a &&& T i else a) d j a) → wX_tableOfSet_4 post s (nI c) q T P (d + 1) a (nI j) := by
  intro d
  induction d with
  | zero => intro j a hj hp; exact pk_le c j (fun _ => hp) (fun h => absurd h (by omega))
  | succ d ih =>
    intro j a hj hp
    have hr := ih (j + 1) _ (by omega) hp
    dsimp only at hr
    exact pk_le c j (fun h => absurd h (by omega)) (fun _ => lx_has (by omega) (cf_br
      (fun e => nm_r (nI_1 j) (by rw [e, if_neg (by decide)] at hr; exact hr))
      (fun e => ⟨vp_in_nI (by omega) (by omega), nm_r (e' := a &&& T j) (by rw [nI_clamp (by omega)]) (nm_r (nI_1 j) (by rw [e, if_pos rfl] at hr; exact hr))⟩)))
theorem lx_ts {post : Int32 → Prop} {s q : Int32} {T P : Nat → Int32} {c : Nat} (hc : c ≤ 9) (h : post (cf_ts T c s)) : wpX_tableOfSet post (nI c, q, T, P) s :=
  show ∃ n, wX_tableOfSet_4 post s (nI c) q T P n (-1) 0 from ⟨c + 1, lx_ts4 hc c 0 (-1) (by omega) h⟩
theorem lx_po {post : Int32 → Prop} {s q : Int32} {T P : Nat → Int32} {c : Nat} (hc : c ≤ 9) (h : post (cf_b (cf_po T c s))) : wpX_isPossible post (nI c, q, T, P) s := by
  refine lx_ts hc (br_c (fun z => ?_) (fun z => ?_))
  · unfold cf_po at h; rw [decide_eq_true z] at h; exact h
  · unfold cf_po at h; rw [decide_eq_false z] at h; exact h
theorem lx_kn12 {post : Int32 → Prop} {s q : Int32} {T P : Nat → Int32} {c : Nat} (hc : c ≤ 9) : ∀ d j, j + d = c → post (cf_b (cf_al (fun i => !bt s i || cf_po T c (s ^^^ ((1 : Int32) <<< (nI i &&& 31)))) d j)) → wX_isKernel_12 post s (nI c) q T P (d + 1) (nI j) := by
  intro d
  induction d with
  | zero => intro j hj hp; exact pk_le c j (fun _ => hp) (fun h => absurd h (by omega))
  | succ d ih =>
    intro j hj hp
    have hp : post (cf_b ((!bt s j || cf_po T c (s ^^^ ((1 : Int32) <<< (nI j &&& 31)))) && cf_al (fun i => !bt s i || cf_po T c (s ^^^ ((1 : Int32) <<< (nI i &&& 31)))) d (j + 1))) := hp
    exact pk_le c j (fun h => absurd h (by omega)) (fun _ => lx_has (by omega) (cf_br
      (fun e => nm_r (nI_1 j) (ih (j + 1) (by omega) (by rw [e] at hp; exact hp)))
      (fun e => lx_po hc (cf_br
        (fun e2 => by rw [e, e2] at hp; exact hp)
        (fun e2 => nm_r (nI_1 j) (ih (j + 1) (by omega) (by rw [e, e2] at hp; exact hp)))))))
theorem lx_kn {post : Int32 → Prop} {s q : Int32} {T P : Nat → Int32} {c : Nat} (hc : c ≤ 9) (h : post (cf_b (cf_kn T c s))) : wpX_isKernel post (nI c, q, T, P) s := by
  unfold cf_kn at h
  unfold wpX_isKernel
  dsimp only
  refine lx_po hc (cf_br (fun e => ?_) (fun e => ?_))
  · rw [e] at h
    exact ⟨c + 1, lx_kn12 hc c 0 (by omega) h⟩
  · rw [e] at h
    exact h
theorem lx_co19 {post : Int32 → Prop} {s q : Int32} {T P : Nat → Int32} {c : Nat} (hc : c ≤ 9) : ∀ d j, j + d = c → post (cf_b (cf_al (fun i => !bt s i || !cf_po T c (cf_ko c s ||| ((1 : Int32) <<< (nI i &&& 31)))) d j)) → wX_isCorrection_19 post s (cf_ko c s) (nI c) q T P (d + 1) (nI j) := by
  intro d
  induction d with
  | zero => intro j hj hp; exact pk_le c j (fun _ => hp) (fun h => absurd h (by omega))
  | succ d ih =>
    intro j hj hp
    have hp : post (cf_b ((!bt s j || !cf_po T c (cf_ko c s ||| ((1 : Int32) <<< (nI j &&& 31)))) && cf_al (fun i => !bt s i || !cf_po T c (cf_ko c s ||| ((1 : Int32) <<< (nI i &&& 31)))) d (j + 1))) := hp
    exact pk_le c j (fun h => absurd h (by omega)) (fun _ => lx_has (by omega) (cf_br
      (fun e => nm_r (nI_1 j) (ih (j + 1) (by omega) (by rw [e] at hp; exact hp)))
      (fun e => lx_po hc (cf_br
        (fun e2 => nm_r (nI_1 j) (ih (j + 1) (by omega) (by rw [e, e2] at hp; exact hp)))
        (fun e2 => by rw [e, e2] at hp; exact hp)))))
theorem lx_ac {post : Int32 → Prop} {q : Int32} {T P : Nat → Int32} {c : Nat} (hc : c ≤ 9) (h : post (nI (2 ^ c - 1))) : wpX_allConditions post (nI c, q, T, P) := by
  show post (((1 : Int32) <<< (nI c &&& 31)) - 1)
  rw [cf_all hc]
  exact h
theorem lx_co {post : Int32 → Prop} {s q : Int32} {T P : Nat → Int32} {c : Nat} (hc : c ≤ 9) (h : post (cf_b (cf_co T c s))) : wpX_isCorrection post (nI c, q, T, P) s := by
  unfold cf_co at h
  unfold wpX_isCorrection
  dsimp only
  refine lx_ac hc (nm_r (e' := cf_ko c s) rfl (lx_po hc (cf_br (fun e => ?_) (fun e => ?_))))
  · rw [e] at h
    exact h
  · rw [e] at h
    exact ⟨c + 1, lx_co19 hc c 0 (by omega) h⟩
/-- what a set of conditions costs -/
def cf_wo (P : Nat → Int32) (c : Nat) (s : Int32) : Int32 := cf_fo (fun i a => if bt s i then a + P i else a) c 0 0
theorem lx_wo4 {post : Int32 → Prop} {s q : Int32} {T P : Nat → Int32} {c : Nat} (hc : c ≤ 9) : ∀ d j a, j + d = c → post (cf_fo (fun i a => if bt s i then a + P i else a) d j a) → wX_priceOfSet_4 post s (nI c) q T P (d + 1) a (nI j) := by
  intro d
  induction d with
  | zero => intro j a hj hp; exact pk_le c j (fun _ => hp) (fun h => absurd h (by omega))
  | succ d ih =>
    intro j a hj hp
    have hr := ih (j + 1) _ (by omega) hp
    dsimp only at hr
    exact pk_le c j (fun h => absurd h (by omega)) (fun _ => lx_has (by omega) (cf_br
      (fun e => nm_r (nI_1 j) (by rw [e, if_neg (by decide)] at hr; exact hr))
      (fun e => ⟨vp_in_nI (by omega) (by omega), nm_r (e' := a + P j) (by rw [nI_clamp (by omega)]) (nm_r (nI_1 j) (by rw [e, if_pos rfl] at hr; exact hr))⟩)))
theorem lx_wo {post : Int32 → Prop} {s q : Int32} {T P : Nat → Int32} {c : Nat} (hc : c ≤ 9) (h : post (cf_wo P c s)) : wpX_priceOfSet post (nI c, q, T, P) s :=
  show ∃ n, wX_priceOfSet_4 post s (nI c) q T P n 0 0 from ⟨c + 1, lx_wo4 hc c 0 0 (by omega) h⟩
theorem lx_ic {post : Int32 → Prop} {q : Int32} {T P : Nat → Int32} {c : Nat} (hc : c ≤ 9) {x : Int32} (f : (x < 0 ∨ nI c ≤ x) → post 0) (g : ∀ j, j < c → x = nI j → post 1) : wpX_isCondition post (nI c, q, T, P) x := by
  refine br_c (fun h => f (Or.inl h)) (fun h => br_c (fun h2 => f (Or.inr h2)) (fun h2 => ?_))
  obtain ⟨j, hj, rfl⟩ := nI_of h
  rw [nI_leI (by omega) hj] at h2
  exact g j (by omega) rfl
theorem lx_is {post : Int32 → Prop} {q : Int32} {T P : Nat → Int32} {c : Nat} (hc : c ≤ 9) {x : Int32} (f : (x < 0 ∨ nI (2 ^ c) ≤ x) → post 0) (g : ∀ j, j < 2 ^ c → x = nI j → post 1) : wpX_isSet post (nI c, q, T, P) x := by
  have h9 := cf_p9 hc
  have h1 := cf_p1 c
  refine br_c (fun h => f (Or.inl h)) (fun h => lx_ac hc ?_)
  obtain ⟨j, hj, rfl⟩ := nI_of h
  exact pk_lt (2 ^ c - 1) j (fun h => f (Or.inr ((nI_leI (by omega) (by omega)).mpr (by omega)))) (fun h => g j (by omega) rfl)
