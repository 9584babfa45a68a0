/-! own: the relation, remove's shift, model's and width's loops -/
/-- the same count, draft and prices; table i holds, bit by bit, whether the condition of literals i holds; no table is empty -/
def cf_R (u : SX) (v : SY) : Prop := ∃ (c : Nat) (q : Int32) (T P L B : Nat → Int32), u = (nI c, q, T, P) ∧ v = (q, nI c, L, P, B) ∧ c ≤ 9 ∧ cf_sm 10 q ∧ (∀ i, i < c → ¬ T i = 0) ∧ cf_hh c T L ∧ cf_pr c P
theorem cf_ref {x : Int32} {n : Nat} (hn : n < 2 ^ 31) (h : x < 0 ∨ nI n ≤ x) {j : Nat} (hj : j < n) (e : x = nI j) : False := by
  subst e
  rcases h with h | h
  · exact nI_pos (by omega) h
  · rw [nI_leI hn (by omega)] at h
    omega
theorem cf_sm_d {q : Int32} {i : Nat} (hi : i < 10) (h : cf_sm 10 q) : cf_sm 10 (q ||| ((1 : Int32) <<< (nI i &&& 31))) := by
  intro k hk
  rcases Nat.lt_or_ge k 32 with h32 | h32
  · rw [b_or, h k hk, cf_one i (by omega) k h32, decide_eq_false (by omega)]; rfl
  · exact b_big h32
def cf_sh : Nat → Nat → (Nat → Int32) → Nat → Int32
  | 0, _, a => a
  | d + 1, j, a => cf_sh d (j + 1) (upd a j (a (j + 1)))
theorem cf_sh_i : ∀ d j (a : Nat → Int32) i, cf_sh d j a i = if j ≤ i ∧ i < j + d then a (i + 1) else a i := by
  intro d
  induction d with
  | zero => intro j a i; rw [if_neg (by omega)]; rfl
  | succ d ih =>
    intro j a i
    show cf_sh d (j + 1) (upd a j (a (j + 1))) i = _
    rw [ih]
    by_cases z : i = j
    · subst z
      rw [if_neg (by omega), if_pos (by omega), pk_us]
    · by_cases y : j + 1 ≤ i ∧ i < j + 1 + d
      · rw [if_pos y, if_pos (by omega), pk_un (by omega)]
      · rw [if_neg y, if_neg (by omega), pk_un z]
theorem lx_rm {post : Int32 → SX → Prop} {q : Int32} {c : Nat} (h0 : 0 < c) (hc : c ≤ 9) : ∀ d j (T P : Nat → Int32), j + d = c - 1 → post (nI (c - 1)) (nI (c - 1), q, cf_sh d j T, cf_sh d j P) → wX_remove_12 post (nI c) q (d + 1) (nI j) T P := by
  have e : nI c - 1 = nI (c - 1) := pk_sub (b := 1) h0
  intro d
  induction d with
  | zero => intro j T P hj hp; exact pk_le (c - 1) j (fun _ => nm_r e hp) (fun h => absurd h (by omega)) e rfl (by omega) (by omega)
  | succ d ih =>
    intro j T P hj hp
    have i0 : vp_in (nI j) 9 := vp_in_nI (by omega) (by omega)
    have i1 : vp_in (nI j + 1) 9 := by rw [nI_1]; exact vp_in_nI (by omega) (by omega)
    have eu : ∀ a : Nat → Int32, upd a (nI j).toNatClampNeg (a (nI j + 1).toNatClampNeg) = upd a j (a (j + 1)) := by
      intro a
      rw [nI_1, nI_clamp (by omega), nI_clamp (by omega)]
    exact pk_le (c - 1) j (fun h => absurd h (by omega)) (fun _ => ⟨i1, i0, nm_r (eu T) ⟨i1, i0, nm_r (eu P) (nm_r (nI_1 j) (ih (j + 1) _ _ (by omega) hp))⟩⟩) e rfl (by omega) (by omega)
theorem ly_rm62 {post : Int32 → SY → Prop} {q : Int32} {c : Nat} {L P B : Nat → Int32} (h0 : 0 < c) (hp : post (nI (c - 1)) (q, nI (c - 1), L, P, B)) : wY_remove_62 post q (nI c) L P B := by
  have e : nI c - 1 = nI (c - 1) := pk_sub (b := 1) h0
  unfold wY_remove_62
  exact nm_r e hp
theorem ly_rm {post : Int32 → SY → Prop} {q : Int32} {c : Nat} {B : Nat → Int32} (h0 : 0 < c) (hc : c ≤ 9) : ∀ d j (L P : Nat → Int32), j + d = c - 1 → post (nI (c - 1)) (q, nI (c - 1), cf_sh d j L, cf_sh d j P, B) → wY_remove_12 post q (nI c) (d + 1) (nI j) L P B := by
  have e : nI c - 1 = nI (c - 1) := pk_sub (b := 1) h0
  intro d
  induction d with
  | zero => intro j L P hj hp; exact pk_le (c - 1) j (fun _ => ly_rm62 h0 hp) (fun h => absurd h (by omega)) e rfl (by omega) (by omega)
  | succ d ih =>
    intro j L P hj hp
    have i0 : vp_in (nI j) 9 := vp_in_nI (by omega) (by omega)
    have i1 : vp_in (nI j + 1) 9 := by rw [nI_1]; exact vp_in_nI (by omega) (by omega)
    have eu : ∀ a : Nat → Int32, upd a (nI j).toNatClampNeg (a (nI j + 1).toNatClampNeg) = upd a j (a (j + 1)) := by
      intro a
      rw [nI_1, nI_clamp (by omega), nI_clamp (by omega)]
    exact pk_le (c - 1) j (fun h => absurd h (by omega)) (fun _ => pk_le 8 j (fun h => absurd h (by omega)) (fun _ => ⟨i1, i0, nm_r (eu L) ⟨i1, i0, nm_r (eu P) (nm_r (nI_1 j) (ih (j + 1) _ _ (by omega) hp))⟩⟩)) e rfl (by omega) (by omega)
theorem lx_mo {post : Int32 → Prop} {t q c' : Int32} {T P : Nat → Int32} : ∀ d j, j + d = 32 → post (cf_fi (bt t) d j) → wX_model_18 post t c' q T P (d + 1) (nI j) := by
  intro d
  induction d with
  | zero => intro j hj hp; exact pk_le 32 j (fun _ => hp) (fun h => absurd h (by omega))
  | succ d ih =>
    intro j hj hp
    have hp : post (if bt t j then nI j else cf_fi (bt t) d (j + 1)) := hp
    exact pk_le 32 j (fun h => absurd h (by omega)) (fun _ => lx_has (by omega) (cf_br
      (fun e => nm_r (nI_1 j) (ih (j + 1) (by omega) (by rw [e, if_neg (by decide)] at hp; exact hp)))
      (fun e => by rw [e, if_pos rfl] at hp; exact hp)))
theorem ly_wd {post : Int32 → Prop} {q c' : Int32} {L P B : Nat → Int32} {p : Nat} (h9 : p < 9) : ∀ d j k, j + d = 32 → post (nI (cf_ct (fun n => cf_ho (L p) (nI n)) d j k)) → wY_width_14 post (nI p) q c' L P B (d + 1) (nI k) (nI j) := by
  intro d
  induction d with
  | zero => intro j k hj hp; exact pk_le 32 j (fun _ => hp) (fun h => absurd h (by omega))
  | succ d ih =>
    intro j k hj hp
    have hp : post (nI (cf_ct (fun n => cf_ho (L p) (nI n)) d (j + 1) (if cf_ho (L p) (nI j) then k + 1 else k))) := hp
    exact pk_le 32 j (fun h => absurd h (by omega)) (fun _ => ly_ho h9 (cf_br
      (fun e => nm_r (nI_1 j) (ih (j + 1) k (by omega) (by rw [e, if_neg (by decide)] at hp; exact hp)))
      (fun e => nm_r (nI_1 k) (nm_r (nI_1 j) (ih (j + 1) (k + 1) (by omega) (by rw [e, if_pos rfl] at hp; exact hp))))))
