/-! own: Y's helping methods, each with a general post -/
theorem pk_mul (a b : Nat) : nI a * nI b = nI (a * b) := (Int32.ofNat_mul a b).symm
theorem ly_size4 {post : Int32 → Prop} {x q c' : Int32} {L P B : Nat → Int32} : ∀ d j k, j + d = 10 → post (nI (cf_ct (bt x) d j k)) → wY_size_4 post x q c' L P B (d + 1) (nI k) (nI j) := by
  intro d
  induction d with
  | zero => intro j k hj hp; exact pk_le 10 j (fun _ => hp) (fun h => absurd h (by omega))
  | succ d ih =>
    intro j k hj hp
    refine pk_le 10 j (fun h => absurd h (by omega)) (fun _ => nm_r (e' := nI (if bt x j then k + 1 else k)) ?_ (nm_r (nI_1 j) (ih (j + 1) _ (by omega) hp)))
    rw [cf_ssh (by omega)]
    cases bt x j
    · exact Int32.add_zero _
    · exact nI_1 k
theorem ly_size {post : Int32 → Prop} {x q c' : Int32} {L P B : Nat → Int32} (h : post (nI (cf_ct (bt x) 10 0 0))) : wpY_size post (q, c', L, P, B) x :=
  show ∃ n, wY_size_4 post x q c' L P B n 0 0 from ⟨11, ly_size4 10 0 0 rfl h⟩
theorem cf_ct10 {x : Int32} (h : cf_sm 10 x) : cf_ct (bt x) 32 0 0 = cf_ct (bt x) 10 0 0 :=
  (cf_ct_s 22 10 0 0).trans (cf_ct_0 22 (0 + 10) _ (fun i h1 _ => h i (by omega)))
theorem ly_bad {post : Int32 → Prop} {q : Int32} {L P B : Nat → Int32} {c : Nat} (hc : c ≤ 9) {x : Int32} (f : (x < 0 ∨ nI c ≤ x) → post 1) (g : ∀ j, j < c → x = nI j → post 0) : wpY_bad post (q, nI c, L, P, B) x := by
  refine br_c (fun h => f (Or.inl h)) (fun h => br_c (fun h2 => f (Or.inr h2)) (fun h2 => ?_))
  obtain ⟨j, hj, rfl⟩ := nI_of h
  rw [nI_leI (by omega) hj] at h2
  exact pk_le j 8 (fun _ => g j (by omega) rfl) (fun h => absurd h (by omega))
theorem ly_bs {post : Int32 → Prop} {q : Int32} {L P B : Nat → Int32} {c : Nat} (hc : c ≤ 9) {x : Int32} (f : (x < 0 ∨ nI (2 ^ c) ≤ x) → post 1) (g : ∀ j, j < 2 ^ c → x = nI j → post 0) : wpY_badSet post (q, nI c, L, P, B) x := by
  have h9 := cf_p9 hc
  refine br_c (fun h => f (Or.inl h)) (fun h => ?_)
  obtain ⟨j, hj, rfl⟩ := nI_of h
  exact pk_lt j (2 ^ c) (fun h => g j h rfl) (fun h => f (Or.inr ((nI_leI (by omega) (by omega)).mpr h))) rfl (cf_shc c (by omega)) (by omega) (by omega)
theorem ly_ho27 {post : Int32 → Prop} {J2 : Int32 → Prop} {x q c' : Int32} {L P B : Nat → Int32} {i j m : Nat} (hi : i < 9) (hm : m < 32) (h : bt (L i) m = true → post 1) (h2 : bt (L i) m = false → J2 (nI (j + 1))) : wY_holds_27 post J2 (nI i) x (nI j) (nI m) q c' L P B := by
  unfold wY_holds_27
  refine ⟨vp_in_nI hi (by omega), ?_⟩
  rw [nI_clamp (by omega)]
  exact cf_yif hm h (fun e => nm_r (nI_1 j) (h2 e))
theorem ly_ho2 {post : Int32 → Prop} {x q c' : Int32} {L P B : Nat → Int32} {i : Nat} (hi : i < 9) : ∀ d j, j + d = 5 → post (cf_b (cf_an (fun v => bt (L i) (if bt x v then 2 * v else 2 * v + 1)) d j)) → wY_holds_2 post (nI i) x q c' L P B (d + 1) (nI j) := by
  intro d
  induction d with
  | zero => intro j hj hp; exact pk_le 5 j (fun _ => hp) (fun h => absurd h (by omega))
  | succ d ih =>
    intro j hj hp
    have hp : post (cf_b (bt (L i) (if bt x j then 2 * j else 2 * j + 1) || cf_an (fun v => bt (L i) (if bt x v then 2 * v else 2 * v + 1)) d (j + 1))) := hp
    have e2 : (2 : Int32) * nI j = nI (2 * j) := pk_mul 2 j
    refine pk_le 5 j (fun h => absurd h (by omega)) (fun _ => cf_yif (by omega) (fun e => ?_) (fun e => ?_))
    · rw [e, if_pos rfl] at hp
      rw [e2]
      exact ly_ho27 hi (by omega) (fun z => by rw [z] at hp; exact hp) (fun z => ih (j + 1) (by omega) (by rw [z] at hp; exact hp))
    · rw [e, if_neg (by decide)] at hp
      rw [e2, nI_1 (2 * j)]
      exact ly_ho27 hi (by omega) (fun z => by rw [z] at hp; exact hp) (fun z => ih (j + 1) (by omega) (by rw [z] at hp; exact hp))
theorem ly_ho {post : Int32 → Prop} {x q c' : Int32} {L P B : Nat → Int32} {i : Nat} (hi : i < 9) (h : post (cf_b (cf_ho (L i) x))) : wpY_holds post (q, c', L, P, B) (nI i) x :=
  show ∃ n, wY_holds_2 post (nI i) x q c' L P B n 0 from ⟨6, ly_ho2 hi 5 0 rfl h⟩
theorem ly_all2 {post : Int32 → Prop} {s x q : Int32} {L P B : Nat → Int32} {c : Nat} (hc : c ≤ 9) : ∀ d j, j + d = c → post (cf_b (cf_al (fun i => !bt s i || cf_ho (L i) x) d j)) → wY_all_2 post s x q (nI c) L P B (d + 1) (nI j) := by
  intro d
  induction d with
  | zero => intro j hj hp; exact pk_le c j (fun _ => hp) (fun h => absurd h (by omega))
  | succ d ih =>
    intro j hj hp
    have hp : post (cf_b ((!bt s j || cf_ho (L j) x) && cf_al (fun i => !bt s i || cf_ho (L i) x) d (j + 1))) := hp
    exact pk_le c j (fun h => absurd h (by omega)) (fun _ => pk_le 9 j (fun h => absurd h (by omega)) (fun _ => cf_yif (by omega)
      (fun e => ly_ho (by omega) (cf_br
        (fun e2 => by rw [e, e2] at hp; exact hp)
        (fun e2 => nm_r (nI_1 j) (ih (j + 1) (by omega) (by rw [e, e2] at hp; exact hp)))))
      (fun e => nm_r (nI_1 j) (ih (j + 1) (by omega) (by rw [e] at hp; exact hp)))))
theorem ly_all {post : Int32 → Prop} {s x q : Int32} {L P B : Nat → Int32} {c : Nat} (hc : c ≤ 9) (h : post (cf_b (cf_al (fun i => !bt s i || cf_ho (L i) x) c 0))) : wpY_all post (q, nI c, L, P, B) s x :=
  show ∃ n, wY_all_2 post s x q (nI c) L P B n 0 from ⟨c + 1, ly_all2 hc c 0 (by omega) h⟩
theorem ly_fi2 {post : Int32 → Prop} {s q : Int32} {L P B : Nat → Int32} {c : Nat} (hc : c ≤ 9) : ∀ d j, j + d = 32 → post (cf_fi (fun n => cf_al (fun i => !bt s i || cf_ho (L i) (nI n)) c 0) d j) → wY_find_2 post s q (nI c) L P B (d + 1) (nI j) := by
  intro d
  induction d with
  | zero => intro j hj hp; exact pk_le 32 j (fun _ => hp) (fun h => absurd h (by omega))
  | succ d ih =>
    intro j hj hp
    have hp : post (if cf_al (fun i => !bt s i || cf_ho (L i) (nI j)) c 0 then nI j else cf_fi (fun n => cf_al (fun i => !bt s i || cf_ho (L i) (nI n)) c 0) d (j + 1)) := hp
    exact pk_le 32 j (fun h => absurd h (by omega)) (fun _ => ly_all hc (cf_br
      (fun e => nm_r (nI_1 j) (ih (j + 1) (by omega) (by rw [e, if_neg (by decide)] at hp; exact hp)))
      (fun e => by rw [e, if_pos rfl] at hp; exact hp)))
def cf_hh (c : Nat) (T L : Nat → Int32) : Prop := ∀ i, i < c → ∀ n, n < 32 → bt (T i) n = cf_ho (L i) (nI n)
theorem ly_fi {post : Int32 → Prop} {s q : Int32} {T L P B : Nat → Int32} {c : Nat} (hc : c ≤ 9) (H : cf_hh c T L) (h : post (cf_fi (bt (cf_ts T c s)) 32 0)) : wpY_find post (q, nI c, L, P, B) s := by
  have e : cf_fi (bt (cf_ts T c s)) 32 0 = cf_fi (fun n => cf_al (fun i => !bt s i || cf_ho (L i) (nI n)) c 0) 32 0 := by
    apply cf_fi_c
    intro n _ hn
    rw [cf_ts_b (by omega)]
    apply cf_al_c
    intro i _ hi
    rw [H i (by omega) n (by omega)]
  rw [e] at h
  exact show ∃ n, wY_find_2 post s q (nI c) L P B n 0 from ⟨33, ly_fi2 hc 32 0 rfl h⟩
theorem cf_fi_p {T : Nat → Int32} {c : Nat} {s : Int32} : cf_fi (bt (cf_ts T c s)) 32 0 < 0 ↔ cf_po T c s = false := by
  rw [cf_fi_n 32 0 (by omega)]
  unfold cf_po
  constructor
  · intro h
    rw [decide_eq_true ((cf_z _).mpr (fun i hi => h i (by omega) (by omega)))]; rfl
  · intro h i _ hi
    by_cases z : cf_ts T c s = 0
    · exact (cf_z _).mp z i (by omega)
    · rw [decide_eq_false z] at h; exact Bool.noConfusion h
def cf_ab (c : Nat) (T B : Nat → Int32) : Prop := ∀ j, j < 2 ^ c → B j = cf_b (cf_po T c (nI j))
theorem ly_wk2 {post : SY → Prop} {q : Int32} {T L P : Nat → Int32} {c : Nat} (hc : c ≤ 9) (H : cf_hh c T L) (h : ∀ B, cf_ab c T B → post (q, nI c, L, P, B)) : ∀ d j B, j + d = 2 ^ c → (∀ i, i < j → B i = cf_b (cf_po T c (nI i))) → wY_work_2 post q (nI c) (d + 1) (nI j) L P B := by
  have h9 := cf_p9 hc
  intro d
  induction d with
  | zero =>
    intro j B hj hB
    exact pk_le (2 ^ c) j (fun _ => h B (fun i hi => hB i (by omega))) (fun h => absurd h (by omega)) (cf_shc c (by omega)) rfl (by omega) (by omega)
  | succ d ih =>
    intro j B hj hB
    have hU : ∀ b : Int32, b = cf_b (cf_po T c (nI j)) → ∀ i, i < j + 1 → upd B j b i = cf_b (cf_po T c (nI i)) := by
      intro b hb i hi
      by_cases z : i = j
      · rw [z, pk_us, hb]
      · rw [pk_un z, hB i (by omega)]
    refine pk_le (2 ^ c) j (fun h => absurd h (by omega)) (fun _ => pk_le 512 j (fun h => absurd h (by omega)) (fun _ => ly_fi hc H (ek_if cf_fi_p
      (fun e => ⟨vp_in_nI (by omega) (by omega), nm_r (e' := upd B j 0) ?_ (nm_r (nI_1 j) (ih (j + 1) _ (by omega) (hU 0 (by rw [e]; rfl))))⟩)
      (fun e => ⟨vp_in_nI (by omega) (by omega), nm_r (e' := upd B j 1) ?_ (nm_r (nI_1 j) (ih (j + 1) _ (by omega) (hU 1 (by rw [cf_nf e]; rfl))))⟩)))) (cf_shc c (by omega)) rfl (by omega) (by omega)
    · rw [nI_clamp (by omega)]; rfl
    · rw [nI_clamp (by omega)]; rfl
theorem ly_wk {post : SY → Prop} {q : Int32} {T L P B : Nat → Int32} {c : Nat} (hc : c ≤ 9) (H : cf_hh c T L) (h : ∀ B, cf_ab c T B → post (q, nI c, L, P, B)) : wpY_work post (q, nI c, L, P, B) :=
  show ∃ n, wY_work_2 post q (nI c) n 0 L P B from ⟨2 ^ c + 1, ly_wk2 hc H h (2 ^ c) 0 B (by omega) (fun i hi => absurd hi (by omega))⟩
theorem cf_ab_s {c : Nat} {T B : Nat → Int32} {s : Int32} (hc : c ≤ 9) (A : cf_ab c T B) (h : cf_sm c s) : B s.toNatClampNeg = cf_b (cf_po T c s) := by
  have h9 := cf_p9 hc
  obtain ⟨j, hj, rfl⟩ := cf_sm_j h
  rw [nI_clamp (by omega)]
  exact A j hj
theorem ly_kn13 {post : Int32 → Prop} {s q : Int32} {T L P B : Nat → Int32} {c : Nat} (hc : c ≤ 9) (A : cf_ab c T B) (hs : cf_sm c s) : ∀ d j, j + d = c → post (cf_b (cf_al (fun i => !bt s i || cf_po T c (s ^^^ ((1 : Int32) <<< (nI i &&& 31)))) d j)) → wY_isKernel_13 post s q (nI c) L P B (d + 1) (nI j) := by
  intro d
  induction d with
  | zero => intro j hj hp; exact pk_le c j (fun _ => hp) (fun h => absurd h (by omega))
  | succ d ih =>
    intro j hj hp
    have hp : post (cf_b ((!bt s j || cf_po T c (s ^^^ ((1 : Int32) <<< (nI j &&& 31)))) && cf_al (fun i => !bt s i || cf_po T c (s ^^^ ((1 : Int32) <<< (nI i &&& 31)))) d (j + 1))) := hp
    refine pk_le c j (fun h => absurd h (by omega)) (fun _ => cf_yif (by omega) (fun e => ?_) (fun e => nm_r (nI_1 j) (ih (j + 1) (by omega) (by rw [e] at hp; exact hp))))
    have hx := cf_sm_x (i := j) hc (by omega) hs
    rw [cf_xa (by omega) e, cf_ab_s hc A hx]
    exact ⟨cf_sm_in hc hx, cf_br
      (fun e2 => by rw [e, e2] at hp; exact hp)
      (fun e2 => nm_r (nI_1 j) (ih (j + 1) (by omega) (by rw [e, e2] at hp; exact hp)))⟩
theorem ly_kn {post : Int32 → Prop} {s q : Int32} {T L P B : Nat → Int32} {c : Nat} (hc : c ≤ 9) (A : cf_ab c T B) (hs : cf_sm c s) (h : post (cf_b (cf_kn T c s))) : wpY_isKernel post (q, nI c, L, P, B) s := by
  unfold cf_kn at h
  unfold wpY_isKernel
  dsimp only
  rw [cf_ab_s hc A hs]
  refine ⟨cf_sm_in hc hs, cf_br (fun e => ?_) (fun e => ?_)⟩
  · rw [e] at h
    exact ⟨c + 1, ly_kn13 hc A hs c 0 (by omega) h⟩
  · rw [e] at h
    exact h
theorem ly_co26 {post : Int32 → Prop} {s q : Int32} {T L P B : Nat → Int32} {c : Nat} (hc : c ≤ 9) (A : cf_ab c T B) (hs : cf_sm c s) : ∀ d j, j + d = c → post (cf_b (cf_al (fun i => !bt s i || !cf_po T c (cf_ko c s ||| ((1 : Int32) <<< (nI i &&& 31)))) d j)) → wY_isCorrection_26 post s (cf_ko c s) q (nI c) L P B (d + 1) (nI j) := by
  intro d
  induction d with
  | zero => intro j hj hp; exact pk_le c j (fun _ => hp) (fun h => absurd h (by omega))
  | succ d ih =>
    intro j hj hp
    have hp : post (cf_b ((!bt s j || !cf_po T c (cf_ko c s ||| ((1 : Int32) <<< (nI j &&& 31)))) && cf_al (fun i => !bt s i || !cf_po T c (cf_ko c s ||| ((1 : Int32) <<< (nI i &&& 31)))) d (j + 1))) := hp
    refine pk_le c j (fun h => absurd h (by omega)) (fun _ => cf_yif (by omega) (fun e => ?_) (fun e => nm_r (nI_1 j) (ih (j + 1) (by omega) (by rw [e] at hp; exact hp))))
    have hx := cf_sm_o (i := j) hc (by omega) (cf_sm_k hs)
    rw [cf_ab_s hc A hx]
    exact ⟨cf_sm_in hc hx, cf_br
      (fun e2 => nm_r (nI_1 j) (ih (j + 1) (by omega) (by rw [e, e2] at hp; exact hp)))
      (fun e2 => by rw [e, e2] at hp; exact hp)⟩
theorem ly_co {post : Int32 → Prop} {s q : Int32} {T L P B : Nat → Int32} {c : Nat} (hc : c ≤ 9) (A : cf_ab c T B) (hs : cf_sm c s) (h : post (cf_b (cf_co T c s))) : wpY_isCorrection post (q, nI c, L, P, B) s := by
  unfold cf_co at h
  unfold wpY_isCorrection
  dsimp only
  refine nm_r (e' := cf_ko c s) (by rw [cf_all hc, cf_ka hs]) ?_
  rw [cf_ab_s hc A (cf_sm_k hs)]
  refine ⟨cf_sm_in hc (cf_sm_k hs), cf_br (fun e => ?_) (fun e => ?_)⟩
  · rw [e] at h
    exact h
  · rw [e] at h
    exact ⟨c + 1, ly_co26 hc A hs c 0 (by omega) h⟩
theorem ly_wo4 {post : Int32 → Prop} {s q : Int32} {L P B : Nat → Int32} {c : Nat} (hc : c ≤ 9) : ∀ d j a, j + d = c → post (cf_fo (fun i a => if bt s i then a + P i else a) d j a) → wY_worth_4 post s q (nI c) L P B (d + 1) a (nI j) := by
  intro d
  induction d with
  | zero => intro j a hj hp; exact pk_le c j (fun _ => hp) (fun h => absurd h (by omega))
  | succ d ih =>
    intro j a hj hp
    have hr := ih (j + 1) _ (by omega) hp
    dsimp only at hr
    exact pk_le c j (fun h => absurd h (by omega)) (fun _ => pk_le 9 j (fun h => absurd h (by omega)) (fun _ => cf_yif (by omega)
      (fun e => ⟨vp_in_nI (by omega) (by omega), nm_r (e' := a + P j) (by rw [nI_clamp (by omega)]) (nm_r (nI_1 j) (by rw [e, if_pos rfl] at hr; exact hr))⟩)
      (fun e => nm_r (nI_1 j) (by rw [e, if_neg (by decide)] at hr; exact hr))))
theorem ly_wo {post : Int32 → Prop} {s q : Int32} {L P B : Nat → Int32} {c : Nat} (hc : c ≤ 9) (h : post (cf_wo P c s)) : wpY_worth post (q, nI c, L, P, B) s :=
  show ∃ n, wY_worth_4 post s q (nI c) L P B n 0 0 from ⟨c + 1, ly_wo4 hc c 0 0 (by omega) h⟩
