/-! own: the loops over all sets, each against a fold (written by wip/whole/gen05.py) -/
theorem lx_kns {post : Int32 → Prop} {q : Int32} {T P : Nat → Int32} {c : Nat} (hc : c ≤ 9) : ∀ d j k, j + d = 2 ^ c → post (nI (cf_ct (fun j => cf_kn T c (nI j)) d j k)) → wX_kernels_9 post (nI (2 ^ c - 1)) (nI c) q T P (d + 1) (nI k) (nI j) := by
  have h9 := cf_p9 hc
  have h1 := cf_p1 c
  intro d
  induction d with
  | zero => intro j k hj hp; exact pk_lt (2 ^ c - 1) j (fun _ => hp) (fun h => absurd h (by omega))
  | succ d ih =>
    intro j k hj hp
    have hp : post (nI (cf_ct (fun j => cf_kn T c (nI j)) d (j + 1) (if cf_kn T c (nI j) then k + 1 else k))) := hp
    exact pk_lt (2 ^ c - 1) j (fun h => absurd h (by omega)) (fun _ => lx_kn hc (cf_br
      (fun e => nm_r (nI_1 j) (ih (j + 1) k (by omega) (by rw [e, if_neg (by decide)] at hp; exact hp)))
      (fun e => nm_r (nI_1 k) (nm_r (nI_1 j) (ih (j + 1) (k + 1) (by omega) (by rw [e, if_pos rfl] at hp; exact hp))))))
theorem lx_kni {post : Int32 → Prop} {i q : Int32} {T P : Nat → Int32} {c : Nat} (hc : c ≤ 9) : ∀ d j k, j + d = 2 ^ c → post (cf_li (fun j => cf_kn T c (nI j)) i (fun _ => -1) d j k) → wX_kernel_10 post i (nI (2 ^ c - 1)) (nI c) q T P (d + 1) (nI k) (nI j) := by
  have h9 := cf_p9 hc
  have h1 := cf_p1 c
  intro d
  induction d with
  | zero => intro j k hj hp; exact pk_lt (2 ^ c - 1) j (fun _ => hp) (fun h => absurd h (by omega))
  | succ d ih =>
    intro j k hj hp
    have hp : post (if cf_kn T c (nI j) then (if nI k = i then nI j else cf_li (fun j => cf_kn T c (nI j)) i (fun _ => -1) d (j + 1) (k + 1)) else cf_li (fun j => cf_kn T c (nI j)) i (fun _ => -1) d (j + 1) k) := hp
    exact pk_lt (2 ^ c - 1) j (fun h => absurd h (by omega)) (fun _ => lx_kn hc (cf_br
      (fun e => nm_r (nI_1 j) (ih (j + 1) k (by omega) (by rw [e, if_neg (by decide)] at hp; exact hp)))
      (fun e => br_c (fun z => by rw [e, if_pos rfl, if_pos z] at hp; exact hp)
        (fun z => nm_r (nI_1 k) (nm_r (nI_1 j) (ih (j + 1) (k + 1) (by omega) (by rw [e, if_pos rfl, if_neg z] at hp; exact hp)))))))
theorem lx_cos {post : Int32 → Prop} {q : Int32} {T P : Nat → Int32} {c : Nat} (hc : c ≤ 9) : ∀ d j k, j + d = 2 ^ c → post (nI (cf_ct (fun j => cf_co T c (nI j)) d j k)) → wX_corrections_9 post (nI (2 ^ c - 1)) (nI c) q T P (d + 1) (nI k) (nI j) := by
  have h9 := cf_p9 hc
  have h1 := cf_p1 c
  intro d
  induction d with
  | zero => intro j k hj hp; exact pk_lt (2 ^ c - 1) j (fun _ => hp) (fun h => absurd h (by omega))
  | succ d ih =>
    intro j k hj hp
    have hp : post (nI (cf_ct (fun j => cf_co T c (nI j)) d (j + 1) (if cf_co T c (nI j) then k + 1 else k))) := hp
    exact pk_lt (2 ^ c - 1) j (fun h => absurd h (by omega)) (fun _ => lx_co hc (cf_br
      (fun e => nm_r (nI_1 j) (ih (j + 1) k (by omega) (by rw [e, if_neg (by decide)] at hp; exact hp)))
      (fun e => nm_r (nI_1 k) (nm_r (nI_1 j) (ih (j + 1) (k + 1) (by omega) (by rw [e, if_pos rfl] at hp; exact hp))))))
theorem lx_coi {post : Int32 → Prop} {i q : Int32} {T P : Nat → Int32} {c : Nat} (hc : c ≤ 9) : ∀ d j k, j + d = 2 ^ c → post (cf_li (fun j => cf_co T c (nI j)) i (fun _ => -1) d j k) → wX_correction_10 post i (nI (2 ^ c - 1)) (nI c) q T P (d + 1) (nI k) (nI j) := by
  have h9 := cf_p9 hc
  have h1 := cf_p1 c
  intro d
  induction d with
  | zero => intro j k hj hp; exact pk_lt (2 ^ c - 1) j (fun _ => hp) (fun h => absurd h (by omega))
  | succ d ih =>
    intro j k hj hp
    have hp : post (if cf_co T c (nI j) then (if nI k = i then nI j else cf_li (fun j => cf_co T c (nI j)) i (fun _ => -1) d (j + 1) (k + 1)) else cf_li (fun j => cf_co T c (nI j)) i (fun _ => -1) d (j + 1) k) := hp
    exact pk_lt (2 ^ c - 1) j (fun h => absurd h (by omega)) (fun _ => lx_co hc (cf_br
      (fun e => nm_r (nI_1 j) (ih (j + 1) k (by omega) (by rw [e, if_neg (by decide)] at hp; exact hp)))
      (fun e => br_c (fun z => by rw [e, if_pos rfl, if_pos z] at hp; exact hp)
        (fun z => nm_r (nI_1 k) (nm_r (nI_1 j) (ih (j + 1) (k + 1) (by omega) (by rw [e, if_pos rfl, if_neg z] at hp; exact hp)))))))
theorem ly_70 {post : Int32 → SY → Prop} {i k q c' : Int32} {L P B : Nat → Int32} (h : post (if i = -1 then k else -1) (q, c', L, P, B)) : wY_listed_70 post i k q c' L P B := by
  unfold wY_listed_70
  exact br_c (fun z => by rw [if_pos z] at h; exact h) (fun z => by rw [if_neg z] at h; exact h)
theorem ly_53 {post : Int32 → SY → Prop} {J9 : Int32 → Int32 → Prop} {x i q c' : Int32} {L P B : Nat → Int32} {k j : Nat} (f : nI k = i → post (nI j) (q, c', L, P, B)) (g : ¬ nI k = i → J9 (nI (k + 1)) (nI (j + 1))) : wY_listed_53 post J9 x i (nI k) (nI j) q c' L P B := by
  unfold wY_listed_53
  exact br_c f (fun z => nm_r (nI_1 k) (nm_r (nI_1 j) (g z)))
theorem ly_kni {post : Int32 → SY → Prop} {i q : Int32} {T L P B : Nat → Int32} {c : Nat} (hc : c ≤ 9) (A : cf_ab c T B) : ∀ d j k, j + d = 2 ^ c → post (cf_li (fun j => cf_kn T c (nI j)) i (fun k => if i = -1 then nI k else -1) d j k) (q, nI c, L, P, B) → wY_listed_9 post 1 i q (nI c) L P B (d + 1) (nI k) (nI j) := by
  have h9 := cf_p9 hc
  intro d
  induction d with
  | zero => intro j k hj hp; exact pk_le (2 ^ c) j (fun _ => ly_70 hp) (fun h => absurd h (by omega)) (cf_shc c (by omega)) rfl (by omega) (by omega)
  | succ d ih =>
    intro j k hj hp
    have hp : post (if cf_kn T c (nI j) then (if nI k = i then nI j else cf_li (fun j => cf_kn T c (nI j)) i (fun k => if i = -1 then nI k else -1) d (j + 1) (k + 1)) else cf_li (fun j => cf_kn T c (nI j)) i (fun k => if i = -1 then nI k else -1) d (j + 1) k) (q, nI c, L, P, B) := hp
    exact pk_le (2 ^ c) j (fun h => absurd h (by omega)) (fun _ => pk_le 512 j (fun h => absurd h (by omega)) (fun _ => br_f (by decide) (ly_kn hc A (cf_sm_n (by omega)) (cf_br
      (fun e => nm_r (nI_1 j) (ih (j + 1) k (by omega) (by rw [e, if_neg (by decide)] at hp; exact hp)))
      (fun e => ly_53 (fun z => by rw [e, if_pos rfl, if_pos z] at hp; exact hp)
        (fun z => ih (j + 1) (k + 1) (by omega) (by rw [e, if_pos rfl, if_neg z] at hp; exact hp))))))) (cf_shc c (by omega)) rfl (by omega) (by omega)
theorem ly_knl {post : Int32 → SY → Prop} {i q : Int32} {T L P B : Nat → Int32} {c : Nat} (hc : c ≤ 9) (H : cf_hh c T L) (h : ∀ B, post (cf_li (fun j => cf_kn T c (nI j)) i (fun k => if i = -1 then nI k else -1) (2 ^ c) 0 0) (q, nI c, L, P, B)) : wpY_listed post (q, nI c, L, P, B) 1 i := by
  unfold wpY_listed
  dsimp only
  exact ly_wk hc H (fun B A => ⟨2 ^ c + 1, ly_kni hc A (2 ^ c) 0 0 (by omega) (h B)⟩)
theorem ly_coi {post : Int32 → SY → Prop} {i q : Int32} {T L P B : Nat → Int32} {c : Nat} (hc : c ≤ 9) (A : cf_ab c T B) : ∀ d j k, j + d = 2 ^ c → post (cf_li (fun j => cf_co T c (nI j)) i (fun k => if i = -1 then nI k else -1) d j k) (q, nI c, L, P, B) → wY_listed_9 post 0 i q (nI c) L P B (d + 1) (nI k) (nI j) := by
  have h9 := cf_p9 hc
  intro d
  induction d with
  | zero => intro j k hj hp; exact pk_le (2 ^ c) j (fun _ => ly_70 hp) (fun h => absurd h (by omega)) (cf_shc c (by omega)) rfl (by omega) (by omega)
  | succ d ih =>
    intro j k hj hp
    have hp : post (if cf_co T c (nI j) then (if nI k = i then nI j else cf_li (fun j => cf_co T c (nI j)) i (fun k => if i = -1 then nI k else -1) d (j + 1) (k + 1)) else cf_li (fun j => cf_co T c (nI j)) i (fun k => if i = -1 then nI k else -1) d (j + 1) k) (q, nI c, L, P, B) := hp
    exact pk_le (2 ^ c) j (fun h => absurd h (by omega)) (fun _ => pk_le 512 j (fun h => absurd h (by omega)) (fun _ => br_t rfl (ly_co hc A (cf_sm_n (by omega)) (cf_br
      (fun e => nm_r (nI_1 j) (ih (j + 1) k (by omega) (by rw [e, if_neg (by decide)] at hp; exact hp)))
      (fun e => ly_53 (fun z => by rw [e, if_pos rfl, if_pos z] at hp; exact hp)
        (fun z => ih (j + 1) (k + 1) (by omega) (by rw [e, if_pos rfl, if_neg z] at hp; exact hp))))))) (cf_shc c (by omega)) rfl (by omega) (by omega)
theorem ly_col {post : Int32 → SY → Prop} {i q : Int32} {T L P B : Nat → Int32} {c : Nat} (hc : c ≤ 9) (H : cf_hh c T L) (h : ∀ B, post (cf_li (fun j => cf_co T c (nI j)) i (fun k => if i = -1 then nI k else -1) (2 ^ c) 0 0) (q, nI c, L, P, B)) : wpY_listed post (q, nI c, L, P, B) 0 i := by
  unfold wpY_listed
  dsimp only
  exact ly_wk hc H (fun B A => ⟨2 ^ c + 1, ly_coi hc A (2 ^ c) 0 0 (by omega) (h B)⟩)
/-! smallest, blame, core -/
def cf_sz (j : Nat) : Int32 := nI (cf_ct (bt (nI j)) 32 0 0)
def cf_sf (T : Nat → Int32) (c : Nat) (j : Nat) (a : Int32) : Int32 := if cf_kn T c (nI j) then (if a = 0 then cf_sz j else if a ≤ cf_sz j then a else cf_sz j) else a
theorem lx_sm {post : Int32 → Prop} {q : Int32} {T P : Nat → Int32} {c : Nat} (hc : c ≤ 9) : ∀ d j a, j + d = 2 ^ c → post (cf_fo (cf_sf T c) d j a) → wX_smallest_9 post (nI (2 ^ c - 1)) (nI c) q T P (d + 1) a (nI j) := by
  have h9 := cf_p9 hc
  have h1 := cf_p1 c
  intro d
  induction d with
  | zero => intro j a hj hp; exact pk_lt (2 ^ c - 1) j (fun _ => hp) (fun h => absurd h (by omega))
  | succ d ih =>
    intro j a hj hp
    have hr := ih (j + 1) (cf_sf T c j a) (by omega) hp
    unfold cf_sf at hr
    exact pk_lt (2 ^ c - 1) j (fun h => absurd h (by omega)) (fun _ => lx_kn hc (cf_br
      (fun e => nm_r (nI_1 j) (by rw [e, if_neg (by decide)] at hr; exact hr))
      (fun e => lx_bits (br_c
        (fun z => nm_r (nI_1 j) (by rw [e, if_pos rfl, if_pos z] at hr; exact hr))
        (fun z => br_c
          (fun y => nm_r (nI_1 j) (by rw [e, if_pos rfl, if_neg z, if_pos (show a ≤ cf_sz j from y)] at hr; exact hr))
          (fun y => nm_r (nI_1 j) (by rw [e, if_pos rfl, if_neg z, if_neg (show ¬ a ≤ cf_sz j from y)] at hr; exact hr)))))))
theorem cf_sz10 {j : Nat} (h : j < 512) : cf_sz j = nI (cf_ct (bt (nI j)) 10 0 0) := by
  unfold cf_sz
  rw [cf_ct10 (cf_sm_n (c := 10) (by omega))]
theorem ly_46 {post : Int32 → SY → Prop} {J8 : Int32 → Int32 → Prop} {q c' : Int32} {L P B : Nat → Int32} {j : Nat} (hj : j < 512) (h : J8 (cf_sz j) (nI (j + 1))) : wY_smallest_46 post J8 (nI j) q c' L P B := by
  unfold wY_smallest_46
  exact ly_size (nm_r (nI_1 j) (by rw [cf_sz10 hj] at h; exact h))
theorem ly_sm {post : Int32 → SY → Prop} {q : Int32} {T L P B : Nat → Int32} {c : Nat} (hc : c ≤ 9) (A : cf_ab c T B) : ∀ d j a, j + d = 2 ^ c → post (cf_fo (cf_sf T c) d j a) (q, nI c, L, P, B) → wY_smallest_8 post q (nI c) L P B (d + 1) a (nI j) := by
  have h9 := cf_p9 hc
  intro d
  induction d with
  | zero => intro j a hj hp; exact pk_le (2 ^ c) j (fun _ => hp) (fun h => absurd h (by omega)) (cf_shc c (by omega)) rfl (by omega) (by omega)
  | succ d ih =>
    intro j a hj hp
    have hr := ih (j + 1) (cf_sf T c j a) (by omega) hp
    unfold cf_sf at hr
    have hj5 : j < 512 := by omega
    exact pk_le (2 ^ c) j (fun h => absurd h (by omega)) (fun _ => pk_le 512 j (fun h => absurd h (by omega)) (fun _ => ly_kn hc A (cf_sm_n (by omega)) (cf_br
      (fun e => nm_r (nI_1 j) (by rw [e, if_neg (by decide)] at hr; exact hr))
      (fun e => br_c
        (fun z => ly_46 hj5 (by rw [e, if_pos rfl, if_pos z] at hr; exact hr))
        (fun z => ly_size (br_c
          (fun y => nm_r (nI_1 j) (by rw [← cf_sz10 hj5] at y; rw [e, if_pos rfl, if_neg z, if_pos y] at hr; exact hr))
          (fun y => ly_46 hj5 (by rw [← cf_sz10 hj5] at y; rw [e, if_pos rfl, if_neg z, if_neg y] at hr; exact hr)))))))) (cf_shc c (by omega)) rfl (by omega) (by omega)
theorem lx_bl {post : Int32 → Prop} {q : Int32} {T P : Nat → Int32} {c p : Nat} (hc : c ≤ 9) (hpc : p < c) : ∀ d j k, j + d = 2 ^ c → post (nI (cf_ct (fun j => bt (nI j) p && cf_kn T c (nI j)) d j k)) → wX_blame_20 post (nI p) (nI (2 ^ c - 1)) (nI c) q T P (d + 1) (nI k) (nI j) := by
  have h9 := cf_p9 hc
  have h1 := cf_p1 c
  intro d
  induction d with
  | zero => intro j k hj hp; exact pk_lt (2 ^ c - 1) j (fun _ => hp) (fun h => absurd h (by omega))
  | succ d ih =>
    intro j k hj hp
    have hp : post (nI (cf_ct (fun j => bt (nI j) p && cf_kn T c (nI j)) d (j + 1) (if (bt (nI j) p && cf_kn T c (nI j)) then k + 1 else k))) := hp
    exact pk_lt (2 ^ c - 1) j (fun h => absurd h (by omega)) (fun _ => lx_has (by omega) (cf_br
      (fun e => nm_r (nI_1 j) (ih (j + 1) k (by omega) (by rw [e, Bool.false_and, if_neg (by decide)] at hp; exact hp)))
      (fun e => lx_kn hc (cf_br
        (fun e2 => nm_r (nI_1 j) (ih (j + 1) k (by omega) (by rw [e, e2, Bool.and_false, if_neg (by decide)] at hp; exact hp)))
        (fun e2 => nm_r (nI_1 k) (nm_r (nI_1 j) (ih (j + 1) (k + 1) (by omega) (by rw [e, e2, Bool.and_true, if_pos rfl] at hp; exact hp))))))))
theorem ly_bl {post : Int32 → SY → Prop} {q : Int32} {T L P B : Nat → Int32} {c p : Nat} (hc : c ≤ 9) (hpc : p < c) (A : cf_ab c T B) : ∀ d j k, j + d = 2 ^ c → post (nI (cf_ct (fun j => bt (nI j) p && cf_kn T c (nI j)) d j k)) (q, nI c, L, P, B) → wY_blame_18 post (nI p) q (nI c) L P B (d + 1) (nI k) (nI j) := by
  have h9 := cf_p9 hc
  intro d
  induction d with
  | zero => intro j k hj hp; exact pk_le (2 ^ c) j (fun _ => hp) (fun h => absurd h (by omega)) (cf_shc c (by omega)) rfl (by omega) (by omega)
  | succ d ih =>
    intro j k hj hp
    have hp : post (nI (cf_ct (fun j => bt (nI j) p && cf_kn T c (nI j)) d (j + 1) (if (bt (nI j) p && cf_kn T c (nI j)) then k + 1 else k))) (q, nI c, L, P, B) := hp
    exact pk_le (2 ^ c) j (fun h => absurd h (by omega)) (fun _ => pk_le 512 j (fun h => absurd h (by omega)) (fun _ => cf_yif (by omega)
      (fun e => ly_kn hc A (cf_sm_n (by omega)) (cf_br
        (fun e2 => nm_r (nI_1 j) (ih (j + 1) k (by omega) (by rw [e, e2, Bool.and_false, if_neg (by decide)] at hp; exact hp)))
        (fun e2 => nm_r (nI_1 k) (nm_r (nI_1 j) (ih (j + 1) (k + 1) (by omega) (by rw [e, e2, Bool.and_true, if_pos rfl] at hp; exact hp))))))
      (fun e => nm_r (nI_1 j) (ih (j + 1) k (by omega) (by rw [e, Bool.false_and, if_neg (by decide)] at hp; exact hp))))) (cf_shc c (by omega)) rfl (by omega) (by omega)
def cf_cf (T : Nat → Int32) (c : Nat) (j : Nat) (a : Int32) : Int32 := if cf_kn T c (nI j) then a &&& nI j else a
theorem lx_cr {post : Int32 → Prop} {q : Int32} {T P : Nat → Int32} {c : Nat} (hc : c ≤ 9) : ∀ d j a, j + d = 2 ^ c → post (cf_fo (cf_cf T c) d j a) → wX_core_9 post (nI (2 ^ c - 1)) (nI c) q T P (d + 1) a (nI j) := by
  have h9 := cf_p9 hc
  have h1 := cf_p1 c
  intro d
  induction d with
  | zero => intro j a hj hp; exact pk_lt (2 ^ c - 1) j (fun _ => hp) (fun h => absurd h (by omega))
  | succ d ih =>
    intro j a hj hp
    have hr := ih (j + 1) (cf_cf T c j a) (by omega) hp
    unfold cf_cf at hr
    exact pk_lt (2 ^ c - 1) j (fun h => absurd h (by omega)) (fun _ => lx_kn hc (cf_br
      (fun e => nm_r (nI_1 j) (by rw [e, if_neg (by decide)] at hr; exact hr))
      (fun e => nm_e (nm_r (nI_1 j) (by rw [e, if_pos rfl] at hr; exact hr)))))
theorem ly_cr {post : Int32 → SY → Prop} {q : Int32} {T L P B : Nat → Int32} {c : Nat} (hc : c ≤ 9) (A : cf_ab c T B) : ∀ d j a, j + d = 2 ^ c → post (cf_fo (cf_cf T c) d j a) (q, nI c, L, P, B) → wY_core_15 post q (nI c) L P B (d + 1) a (nI j) := by
  have h9 := cf_p9 hc
  intro d
  induction d with
  | zero => intro j a hj hp; exact pk_le (2 ^ c) j (fun _ => hp) (fun h => absurd h (by omega)) (cf_shc c (by omega)) rfl (by omega) (by omega)
  | succ d ih =>
    intro j a hj hp
    have hr := ih (j + 1) (cf_cf T c j a) (by omega) hp
    unfold cf_cf at hr
    exact pk_le (2 ^ c) j (fun h => absurd h (by omega)) (fun _ => pk_le 512 j (fun h => absurd h (by omega)) (fun _ => ly_kn hc A (cf_sm_n (by omega)) (cf_br
      (fun e => nm_r (nI_1 j) (by rw [e, if_neg (by decide)] at hr; exact hr))
      (fun e => nm_e (nm_r (nI_1 j) (by rw [e, if_pos rfl] at hr; exact hr)))))) (cf_shc c (by omega)) rfl (by omega) (by omega)
/-! cheapest: the two searches, each as it goes -/
def cf_xb (f : Nat → Bool) (w : Int32 → Int32) : Nat → Nat → Int32 → Int32 → Int32
  | 0, _, b, _ => b
  | d + 1, j, b, p => if p ≤ w (nI j) then cf_xb f w d (j + 1) b p else if f j then cf_xb f w d (j + 1) (nI j) (w (nI j)) else cf_xb f w d (j + 1) b p
def cf_yb (f : Nat → Bool) (w : Int32 → Int32) : Nat → Nat → Int32 → Int32
  | 0, _, b => b
  | d + 1, j, b => if f j then (if b < 0 then cf_yb f w d (j + 1) (nI j) else if w b ≤ w (nI j) then cf_yb f w d (j + 1) b else cf_yb f w d (j + 1) (nI j)) else cf_yb f w d (j + 1) b
theorem lx_lc16 {post : Int32 → Prop} {q : Int32} {T P : Nat → Int32} {c : Nat} (hc : c ≤ 9) : ∀ d j b p, j + d = 2 ^ c - 1 → post (cf_xb (fun j => cf_co T c (nI j)) (cf_wo P c) d j b p) → wX_leastCheapCorrection_16 post (nI (2 ^ c - 1)) (nI c) q T P (d + 1) b p (nI j) := by
  have h9 := cf_p9 hc
  have h1 := cf_p1 c
  intro d
  induction d with
  | zero => intro j b p hj hp; exact pk_le (2 ^ c - 1) j (fun _ => hp) (fun h => absurd h (by omega))
  | succ d ih =>
    intro j b p hj hp
    have hp : post (if p ≤ cf_wo P c (nI j) then cf_xb (fun j => cf_co T c (nI j)) (cf_wo P c) d (j + 1) b p else if cf_co T c (nI j) then cf_xb (fun j => cf_co T c (nI j)) (cf_wo P c) d (j + 1) (nI j) (cf_wo P c (nI j)) else cf_xb (fun j => cf_co T c (nI j)) (cf_wo P c) d (j + 1) b p) := hp
    exact pk_le (2 ^ c - 1) j (fun h => absurd h (by omega)) (fun _ => lx_wo hc (br_c
      (fun z => nm_r (nI_1 j) (ih (j + 1) b p (by omega) (by rw [if_pos z] at hp; exact hp)))
      (fun z => lx_co hc (cf_br
        (fun e => nm_r (nI_1 j) (ih (j + 1) b p (by omega) (by rw [if_neg z, e, if_neg (by decide)] at hp; exact hp)))
        (fun e => nm_r (nI_1 j) (ih (j + 1) _ _ (by omega) (by rw [if_neg z, e, if_pos rfl] at hp; exact hp)))))))
theorem lx_lc {post : Int32 → Prop} {q : Int32} {T P : Nat → Int32} {c : Nat} (hc : c ≤ 9) (h : post (cf_xb (fun j => cf_co T c (nI j)) (cf_wo P c) (2 ^ c - 1) 0 (nI (2 ^ c - 1)) (cf_wo P c (nI (2 ^ c - 1))))) : wpX_leastCheapCorrection post (nI c, q, T, P) := by
  unfold wpX_leastCheapCorrection
  dsimp only
  exact lx_ac hc (lx_wo hc ⟨2 ^ c - 1 + 1, lx_lc16 hc (2 ^ c - 1) 0 _ _ (by omega) h⟩)
theorem ly_be8 {post : Int32 → SY → Prop} {q : Int32} {T L P B : Nat → Int32} {c : Nat} (hc : c ≤ 9) (A : cf_ab c T B) : ∀ d j b, j + d = 2 ^ c → post (cf_yb (fun j => cf_co T c (nI j)) (cf_wo P c) d j b) (q, nI c, L, P, B) → wY_best_8 post q (nI c) L P B (d + 1) b (nI j) := by
  have h9 := cf_p9 hc
  intro d
  induction d with
  | zero => intro j b hj hp; exact pk_le (2 ^ c) j (fun _ => hp) (fun h => absurd h (by omega)) (cf_shc c (by omega)) rfl (by omega) (by omega)
  | succ d ih =>
    intro j b hj hp
    have hp : post (if cf_co T c (nI j) then (if b < 0 then cf_yb (fun j => cf_co T c (nI j)) (cf_wo P c) d (j + 1) (nI j) else if cf_wo P c b ≤ cf_wo P c (nI j) then cf_yb (fun j => cf_co T c (nI j)) (cf_wo P c) d (j + 1) b else cf_yb (fun j => cf_co T c (nI j)) (cf_wo P c) d (j + 1) (nI j)) else cf_yb (fun j => cf_co T c (nI j)) (cf_wo P c) d (j + 1) b) (q, nI c, L, P, B) := hp
    exact pk_le (2 ^ c) j (fun h => absurd h (by omega)) (fun _ => pk_le 512 j (fun h => absurd h (by omega)) (fun _ => ly_co hc A (cf_sm_n (by omega)) (cf_br
      (fun e => nm_r (nI_1 j) (ih (j + 1) b (by omega) (by rw [e, if_neg (by decide)] at hp; exact hp)))
      (fun e => br_c
        (fun z => nm_r (nI_1 j) (ih (j + 1) _ (by omega) (by rw [e, if_pos rfl, if_pos z] at hp; exact hp)))
        (fun z => ly_wo hc (ly_wo hc (br_c
          (fun y => nm_r (nI_1 j) (ih (j + 1) _ (by omega) (by rw [e, if_pos rfl, if_neg z, if_pos y] at hp; exact hp)))
          (fun y => nm_r (nI_1 j) (ih (j + 1) _ (by omega) (by rw [e, if_pos rfl, if_neg z, if_neg y] at hp; exact hp)))))))))) (cf_shc c (by omega)) rfl (by omega) (by omega)
theorem ly_be {post : Int32 → SY → Prop} {q : Int32} {T L P B : Nat → Int32} {c : Nat} (hc : c ≤ 9) (H : cf_hh c T L) (h : ∀ B, post (cf_yb (fun j => cf_co T c (nI j)) (cf_wo P c) (2 ^ c) 0 (-1)) (q, nI c, L, P, B)) : wpY_best post (q, nI c, L, P, B) := by
  unfold wpY_best
  dsimp only
  exact ly_wk hc H (fun B A => ⟨2 ^ c + 1, ly_be8 hc A (2 ^ c) 0 (-1) (by omega) (h B)⟩)
