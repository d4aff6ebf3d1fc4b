/-! sum, next, count, faults -/
def cf_is (f : Nat → Int32) : Nat → Int32
  | 0 => 0
  | n + 1 => cf_is f n + f n
theorem cf_is_s (f : Nat → Int32) (n : Nat) : cf_is f (n + 1) = cf_is f n + f n := rfl
theorem cf_is_c {f f' : Nat → Int32} {n : Nat} (h : ∀ i, i < n → f i = f' i) : cf_is f n = cf_is f' n := by
  induction n with
  | zero => rfl
  | succ n ih => rw [cf_is_s, cf_is_s, ih (fun i hi => h i (by omega)), h n (by omega)]
theorem cf_is_0 {f : Nat → Int32} {n : Nat} (d : Nat) (h : ∀ i, n ≤ i → i < n + d → f i = 0) : cf_is f (n + d) = cf_is f n := by
  induction d with
  | zero => rfl
  | succ d ih =>
    rw [← Nat.add_assoc, cf_is_s, ih (fun i h1 h2 => h i h1 (by omega)), h (n + d) (by omega) (by omega), Int32.add_zero]
theorem cf_xsum {post : Int32 → Prop} {f0 : Int32} {w Ho s pl Pk sp : Nat → Int32} {q n : Nat} (hn : n ≤ 16) (hq : q + n ≤ 192) (hp : post (cf_is (fun k => w (q + k)) n)) : ∃ m, wX_sum_30 post (nI n) (nI q) f0 w Ho s pl Pk sp m 0 0 := by
  have key : ∀ d i : Nat, i + d = n → wX_sum_30 post (nI n) (nI q) f0 w Ho s pl Pk sp (d + 1) (cf_is (fun k => w (q + k)) i) (nI i) := by
    intro d
    induction d with
    | zero =>
      intro i hi
      have e : i = n := by omega
      rw [e]
      exact br_t (nI_le (Nat.le_refl _) (by omega)) hp
    | succ d ih =>
      intro i hi
      have t := ih (i + 1) (by omega)
      rw [cf_is_s] at t
      refine br_f (nI_ge (by omega) (by omega)) ⟨cf_ii (by omega) (by decide), nm_r ?_ (nm_r (nI_1 i) t)⟩
      rw [cf_ix (by omega)]
  exact ⟨n + 1, key n 0 (by omega)⟩
theorem cf_ysum {post : Int32 → Prop} {f0 : Int32} {s wy : Nat → Int32} {h : Nat} (hh : h < 64) (hp : post (cf_is (fun k => wy (16 * h + k)) 16)) : ∃ m, wY_sum_14 post (nI h) f0 s wy m 0 0 := by
  have key : ∀ d i : Nat, i + d = 16 → wY_sum_14 post (nI h) f0 s wy (d + 1) (cf_is (fun k => wy (16 * h + k)) i) (nI i) := by
    intro d
    induction d with
    | zero =>
      intro i hi
      have e : i = 16 := by omega
      subst e
      exact br_t (nI_le (a := 16) (by omega) (by omega)) hp
    | succ d ih =>
      intro i hi
      have t := ih (i + 1) (by omega)
      rw [cf_is_s] at t
      refine br_f (nI_ge (b := 16) (by omega) (by decide)) ⟨cf_iyi (by omega), nm_r ?_ (nm_r (nI_1 i) t)⟩
      rw [cf_iy (by omega)]
  exact ⟨17, key 16 0 rfl⟩
theorem i_vc_sum {k : Nat} {u : SX} {v : SY} (I : i_Rel k u v) (hk : k + 4 ≤ 2049) (v1 : Int32) : wpX_sum (fun r => wpY_sum (fun r' => r' = r ∧ i_Rel (k + 4) u v) v v1) u v1 := by
  obtain ⟨P, z, p, w, Ho, Pk, sp, wy, rfl, rfl, R⟩ := I
  have R0 := R
  obtain ⟨⟨-, h2, hz, -, J, -, hw⟩, Z, -⟩ := R0
  unfold wpX_sum wpY_sum
  dsimp only
  rcases cf_goods z v1 with ⟨h, hh, lh, rfl⟩ | hb
  · have l16 := hz h
    have q := cf_inst J.1 h2 hz hh (i := z h - 1) (by omega)
    refine cf_xgood_t hh lh hz (br_f (by decide) ⟨vp_in_nI hh (by decide), nm_r (cf_szI hh) ⟨vp_in_nI hh (by decide), nm_r (cf_szI (z := p) hh) (cf_xsum l16 (by omega) ?_)⟩⟩)
    refine cf_ygood hh lh hz (br_t rfl (cf_ysum hh ⟨?_, cf_rel R⟩))
    have e := cf_is_0 (f := fun k => wy (16 * h + k)) (n := z h) (16 - z h) (fun i h1 h2 => Z h hh i (by omega) h1)
    rw [show z h + (16 - z h) = 16 from by omega] at e
    exact e.trans (cf_is_c (fun i hi => (hw h hh i hi).symm))
  · exact cf_xgood_f hb (br_t rfl (cf_ybad hb (br_f (by decide) ⟨rfl, cf_rel R⟩)))
section
variable {f0 : Int32} {w Ho : Nat → Int32} {z p : Nat → Nat} {Pk sp wy : Nat → Int32}
theorem cf_xnx_t {post : Int32 → Prop} {a h : Nat} (hz : ∀ j, z j ≤ 16) (ha : a ≤ h) (hh : h < 64) (lh : 0 < z h) (hl : ∀ j, a ≤ j → j < h → z j = 0) (hp : post (nI h)) :
    ∃ n, wX_next_12 post f0 w Ho (fun j => nI (z j)) (fun j => nI (p j)) Pk sp n (nI a) := by
  have key : ∀ d i : Nat, a ≤ i → i + d = h → wX_next_12 post f0 w Ho (fun j => nI (z j)) (fun j => nI (p j)) Pk sp (d + 1) (nI i) := by
    intro d
    induction d with
    | zero =>
      intro i hai hi
      have e : i = h := by omega
      rw [e]
      have l16 := hz h
      refine br_f (nI_ge (b := 64) hh (by decide)) ⟨vp_in_nI hh (by decide), br_f ?_ hp⟩
      rw [nI_clamp (by omega)]
      exact nI_nle (n := z h) lh (by omega)
    | succ d ih =>
      intro i hai hi
      have t := ih (i + 1) (by omega) (by omega)
      refine br_f (nI_ge (b := 64) (by omega) (by decide)) ⟨vp_in_nI (by omega) (by decide), br_t ?_ (nm_r (nI_1 i) t)⟩
      rw [nI_clamp (by omega)]
      show nI (z i) ≤ 0
      rw [hl i hai (by omega)]
      decide
  exact ⟨h - a + 1, key (h - a) a (Nat.le_refl _) (by omega)⟩
theorem cf_xnx_f {post : Int32 → Prop} {a : Nat} (ha : a < 2 ^ 31) (hl : ∀ j, a ≤ j → j < 64 → z j = 0) (hp : post (-1)) :
    ∃ n, wX_next_12 post f0 w Ho (fun j => nI (z j)) (fun j => nI (p j)) Pk sp n (nI a) := by
  by_cases big : 64 ≤ a
  · exact ⟨1, br_t (nI_le (a := 64) big ha) hp⟩
  have key : ∀ d i : Nat, a ≤ i → i + d = 64 → wX_next_12 post f0 w Ho (fun j => nI (z j)) (fun j => nI (p j)) Pk sp (d + 1) (nI i) := by
    intro d
    induction d with
    | zero =>
      intro i hai hi
      exact br_t (nI_le (a := 64) (by omega) (by omega)) hp
    | succ d ih =>
      intro i hai hi
      have t := ih (i + 1) (by omega) (by omega)
      refine br_f (nI_ge (b := 64) (by omega) (by decide)) ⟨vp_in_nI (by omega) (by decide), br_t ?_ (nm_r (nI_1 i) t)⟩
      rw [nI_clamp (by omega)]
      show nI (z i) ≤ 0
      rw [hl i hai (by omega)]
      decide
  exact ⟨64 - a + 1, key (64 - a) a (Nat.le_refl _) (by omega)⟩
theorem cf_ynx_t {post : Int32 → Prop} {x : Int32} {h : Nat} (hz : ∀ j, z j ≤ 16) (hh : h < 64) (nx : ¬ nI h < x) (lh : 0 < z h) (hl : ∀ j, j < h → nI j < x ∨ z j = 0) (hp : post (nI h)) :
    wpY_next post (cf_T f0 z wy) x := by
  have key : ∀ d i : Nat, i + d = h → wY_next_2 post x f0 (fun j => nI (z j)) wy (d + 1) (nI i) := by
    intro d
    induction d with
    | zero =>
      intro i hi
      have e : i = h := by omega
      rw [e]
      have l16 := hz h
      refine br_f (nI_ge (b := 64) hh (by decide)) (br_f nx ⟨vp_in_nI hh (by decide), br_f ?_ hp⟩)
      rw [nI_clamp (by omega)]
      exact nI_nle (n := z h) lh (by omega)
    | succ d ih =>
      intro i hi
      have t := ih (i + 1) (by omega)
      refine br_f (nI_ge (b := 64) (by omega) (by decide)) (br_c (fun _ => nm_r (nI_1 i) t) (fun n => ⟨vp_in_nI (by omega) (by decide), br_t ?_ (nm_r (nI_1 i) t)⟩))
      rw [nI_clamp (by omega)]
      show nI (z i) ≤ 0
      rw [(hl i (by omega)).resolve_left n]
      decide
  exact ⟨h + 1, key h 0 (by omega)⟩
theorem cf_ynx_f {post : Int32 → Prop} {x : Int32} (hl : ∀ j, j < 64 → nI j < x ∨ z j = 0) (hp : post (-1)) :
    wpY_next post (cf_T f0 z wy) x := by
  have key : ∀ d i : Nat, i + d = 64 → wY_next_2 post x f0 (fun j => nI (z j)) wy (d + 1) (nI i) := by
    intro d
    induction d with
    | zero =>
      intro i hi
      exact br_t (nI_le (a := 64) (by omega) (by omega)) hp
    | succ d ih =>
      intro i hi
      have t := ih (i + 1) (by omega)
      refine br_f (nI_ge (b := 64) (by omega) (by decide)) (br_c (fun _ => nm_r (nI_1 i) t) (fun n => ⟨vp_in_nI (by omega) (by decide), br_t ?_ (nm_r (nI_1 i) t)⟩))
      rw [nI_clamp (by omega)]
      show nI (z i) ≤ 0
      rw [(hl i (by omega)).resolve_left n]
      decide
  exact ⟨65, key 64 0 rfl⟩
end
theorem i_vc_next {k : Nat} {u : SX} {v : SY} (I : i_Rel k u v) (hk : k + 4 ≤ 2049) (v1 : Int32) : wpX_next (fun r => wpY_next (fun r' => r' = r ∧ i_Rel (k + 4) u v) v v1) u v1 := by
  obtain ⟨P, z, p, w, Ho, Pk, sp, wy, rfl, rfl, R⟩ := I
  have hz := R.1.2.2.1
  have neg : ∀ j, j < 64 → v1 < 0 → ¬ nI j < v1 := fun j hj n q => absurd (Int32.lt_trans q n) (nI_pos (by omega))
  by_cases e : ∃ h, h < 64 ∧ ¬ nI h < v1 ∧ 0 < z h
  · obtain ⟨h, ⟨hh, nx, lh⟩, ls⟩ := pk_least _ e
    have hl : ∀ j, j < h → nI j < v1 ∨ z j = 0 := by
      intro j hj
      by_cases a : nI j < v1
      · exact Or.inl a
      · by_cases b : z j = 0
        · exact Or.inr b
        · exact absurd ⟨by omega, a, by omega⟩ (ls j hj)
    refine br_c (fun a => ?_) (fun a => ?_)
    · obtain ⟨m, hm, rfl⟩ := nI_of (Int32.not_lt.mpr a)
      rw [nI_ltI (by omega) hm] at nx
      refine cf_xnx_t hz (by omega) hh lh (fun j h1 h2 => (hl j h2).resolve_left (fun q => ?_)) (cf_ynx_t hz hh (fun q => nx ((nI_ltI (by omega) hm).mp q)) lh hl ⟨rfl, cf_rel R⟩)
      rw [nI_ltI (by omega) hm] at q
      omega
    · have n0 : v1 < 0 := Int32.not_le.mp a
      exact cf_xnx_t (a := 0) hz (by omega) hh lh (fun j _ h2 => (hl j h2).resolve_left (neg j (by omega) n0)) (cf_ynx_t hz hh nx lh hl ⟨rfl, cf_rel R⟩)
  · have hl : ∀ j, j < 64 → nI j < v1 ∨ z j = 0 := by
      intro j hj
      by_cases a : nI j < v1
      · exact Or.inl a
      · by_cases b : z j = 0
        · exact Or.inr b
        · exact absurd ⟨j, hj, a, by omega⟩ e
    refine br_c (fun a => ?_) (fun a => ?_)
    · obtain ⟨m, hm, rfl⟩ := nI_of (Int32.not_lt.mpr a)
      refine cf_xnx_f hm (fun j h1 h2 => (hl j h2).resolve_left (fun q => ?_)) (cf_ynx_f hl ⟨rfl, cf_rel R⟩)
      rw [nI_ltI (by omega) hm] at q
      omega
    · have n0 : v1 < 0 := Int32.not_le.mp a
      exact cf_xnx_f (a := 0) (by decide) (fun j _ h2 => (hl j h2).resolve_left (neg j h2 n0)) (cf_ynx_f hl ⟨rfl, cf_rel R⟩)
section
variable {f0 : Int32} {w Ho : Nat → Int32} {z p : Nat → Nat} {Pk sp wy : Nat → Int32}
theorem cf_xcount {post : Int32 → Prop} {x : Int32} (hz : ∀ j, z j ≤ 16) (hi : ∀ h, h < 64 → ∀ j, j < z h → p h + j < 192)
    (hp : post (nI (cf_sm (fun h => cf_cn (fun j => w (p h + j) = x) (z h)) 64))) : wpX_count post (cf_S f0 w Ho z p Pk sp) x := by
  have inner : ∀ (J : Int32 → Int32 → Prop) (h m : Nat), h < 64 → J (nI (m + cf_cn (fun j => w (p h + j) = x) (z h))) (nI (h + 1)) → ∀ d i : Nat, i + d = z h →
      wX_count_29 post J x (nI h) (nI (z h)) (nI (p h)) f0 w Ho (fun j => nI (z j)) (fun j => nI (p j)) Pk sp (d + 1) (nI (m + cf_cn (fun j => w (p h + j) = x) i)) (nI i) := by
    intro J h m hh hJ d
    have l16 := hz h
    induction d with
    | zero =>
      intro i hi
      have e : i = z h := by omega
      rw [e]
      exact br_t (nI_le (Nat.le_refl _) (by omega)) (nm_r (nI_1 h) hJ)
    | succ d ih =>
      intro i hi'
      have t := ih (i + 1) (by omega)
      rw [cf_cn_s] at t
      have b := hi h hh i (by omega)
      refine br_f (nI_ge (by omega) (by omega)) ⟨cf_ii b (by decide), ?_⟩
      rw [cf_ix (by omega)]
      by_cases e : w (p h + i) = x
      · rw [cf_bt e, ← Nat.add_assoc] at t
        exact br_t e (nm_r (nI_1 _) (nm_r (nI_1 i) t))
      · rw [cf_bf e, Nat.add_zero] at t
        exact br_f e (nm_r (nI_1 i) t)
  have key : ∀ d i : Nat, i + d = 64 → wX_count_4 post x f0 w Ho (fun j => nI (z j)) (fun j => nI (p j)) Pk sp (d + 1) (nI (cf_sm (fun h => cf_cn (fun j => w (p h + j) = x) (z h)) i)) (nI i) := by
    intro d
    induction d with
    | zero =>
      intro i hi
      have e : i = 64 := by omega
      subst e
      exact br_t (nI_le (a := 64) (by omega) (by omega)) hp
    | succ d ih =>
      intro i hi'
      have t := ih (i + 1) (by omega)
      rw [cf_sm_s] at t
      have s := inner _ i _ (by omega) t (z i) 0 (by omega)
      exact br_f (nI_ge (b := 64) (by omega) (by decide)) ⟨vp_in_nI (by omega) (by decide), nm_r (cf_szI (by omega)) ⟨vp_in_nI (by omega) (by decide), nm_r (cf_szI (z := p) (by omega)) ⟨z i + 1, s⟩⟩⟩
  exact ⟨65, key 64 0 rfl⟩
theorem cf_ycount {post : Int32 → Prop} {x : Int32} (hz : ∀ j, z j ≤ 16)
    (hp : post (nI (cf_sm (fun h => cf_cn (fun j => wy (16 * h + j) = x) (z h)) 64))) : wpY_count post (cf_T f0 z wy) x := by
  have inner : ∀ (J : Int32 → Int32 → Prop) (h m : Nat), h < 64 → J (nI (m + cf_cn (fun j => wy (16 * h + j) = x) (z h))) (nI (h + 1)) → ∀ d i : Nat, i + d = z h →
      wY_count_13 post J x (nI h) f0 (fun j => nI (z j)) wy (d + 1) (nI (m + cf_cn (fun j => wy (16 * h + j) = x) i)) (nI i) := by
    intro J h m hh hJ d
    have l16 := hz h
    have en : (nI h).toNatClampNeg = h := nI_clamp (by omega)
    induction d with
    | zero =>
      intro i hi
      have e : i = z h := by omega
      rw [e]
      refine ⟨vp_in_nI hh (by decide), br_t ?_ (nm_r (nI_1 h) hJ)⟩
      rw [en]
      exact nI_le (b := z h) (Nat.le_refl _) (by omega)
    | succ d ih =>
      intro i hi'
      have t := ih (i + 1) (by omega)
      rw [cf_cn_s] at t
      refine ⟨vp_in_nI hh (by decide), br_f ?_ (br_f (nI_ge (b := 16) (by omega) (by decide)) ⟨cf_iyi (by omega), ?_⟩)⟩
      · rw [en]
        exact nI_ge (b := z h) (by omega) (by omega)
      · rw [cf_iy (by omega)]
        by_cases e : wy (16 * h + i) = x
        · rw [cf_bt e, ← Nat.add_assoc] at t
          exact br_t e (nm_r (nI_1 _) (nm_r (nI_1 i) t))
        · rw [cf_bf e, Nat.add_zero] at t
          exact br_f e (nm_r (nI_1 i) t)
  have key : ∀ d i : Nat, i + d = 64 → wY_count_4 post x f0 (fun j => nI (z j)) wy (d + 1) (nI (cf_sm (fun h => cf_cn (fun j => wy (16 * h + j) = x) (z h)) i)) (nI i) := by
    intro d
    induction d with
    | zero =>
      intro i hi
      have e : i = 64 := by omega
      subst e
      exact br_t (nI_le (a := 64) (by omega) (by omega)) hp
    | succ d ih =>
      intro i hi'
      have t := ih (i + 1) (by omega)
      rw [cf_sm_s] at t
      have s := inner _ i _ (by omega) t (z i) 0 (by omega)
      exact br_f (nI_ge (b := 64) (by omega) (by decide)) ⟨z i + 1, s⟩
  exact ⟨65, key 64 0 rfl⟩
/-- no page holds an object of another class -/
theorem cf_xother {post : Int32 → Prop} {P g k : Nat} (hP : P ≤ 12) (J : cf_AB P z p Ho Pk) (hz : ∀ j, z j ≤ 16) (hg : g < P) (hk : k < 4) (e : Pk g = nI k) (hp : post 0) :
    wpX_holdsOtherKind post (cf_S f0 w Ho z p Pk sp) (nI g) (nI k) := by
  have key : ∀ d i : Nat, i + d = 16 → wX_holdsOtherKind_8 post (nI k) (nI (16 * g)) f0 w Ho (fun j => nI (z j)) (fun j => nI (p j)) Pk sp (d + 1) (nI (16 * g + i)) := by
    intro d
    induction d with
    | zero =>
      intro i hi
      exact br_t (cf_p16t (by omega) (by omega)) hp
    | succ d ih =>
      intro i hi
      have t := ih (i + 1) (by omega)
      rw [← Nat.add_assoc] at t
      refine br_f (cf_p16f (by omega) (by omega)) ⟨vp_in_nI (by omega) (by decide), ?_⟩
      rw [nI_clamp (by omega)]
      by_cases q : Ho (16 * g + i) = -1
      · exact nm_r q (br_t rfl (nm_r (nI_1 _) t))
      · obtain ⟨h, hh, lh, eh, ph⟩ := J.2.1 _ (by omega) q
        have a := (J.1 h hh lh).2.1
        rw [ph, show (16 * g + i) / 16 = g from by omega, e] at a
        have k4 := cf_kd4 (z h)
        exact nm_r eh (br_f (cf_nm1 (by omega)) (cf_xok_t hh hz ⟨lh, (cf_inj (by omega) (by omega) a).symm⟩ (br_f (by decide) (nm_r (nI_1 _) t))))
  exact nm_r (cf_m16 g) ⟨17, key 16 0 rfl⟩
end
theorem cf_xfaulty {post : Int32 → Prop} {P g : Nat} {z p : Nat → Nat} {c : Nat → Nat → Int32} {w Ho Pk sp : Nat → Int32} (X : cf_X P z p c w Ho Pk) (hg : g < P) (hp : post 0) :
    wpX_isFaulty post (cf_S (nI P) w Ho z p Pk sp) (nI g) := by
  obtain ⟨h1, h2, hz, hpl, J, D, hw⟩ := X
  refine ⟨vp_in_nI (by omega) (by decide), ?_⟩
  rw [nI_clamp (by omega)]
  by_cases e : Pk g = -1
  · exact nm_r e (br_t rfl hp)
  · obtain ⟨k, hk, ek⟩ := J.2.2 g hg e
    have b : cf_hl Ho g ≤ 16 := cf_cn_le _ _
    refine nm_r ek (br_f (cf_nm1 (by omega)) (cf_xheld (by omega) (br_f (nI_ne0 (D.1 g hg e) (by omega)) (cf_xother h2 J hz hg hk ek (br_t rfl ?_)))))
    by_cases q : cf_hl Ho g < cf_pr k
    · refine cf_xpp_t h2 hk hg (cf_nm1 (by omega)) ⟨ek, q⟩ (fun j hj w => ?_) (cf_xpart_t (by omega) hk ⟨ek, q⟩ (br_f (by decide) (br_t rfl hp)))
      have := D.2 j g k (by omega) hg hk w.2.1 ek w.2.2 q
      omega
    · have np : ¬ (Pk g = nI k ∧ cf_hl Ho g < cf_pr k) := fun w => q w.2
      by_cases f : ∃ r, r < P ∧ Pk r = nI k ∧ cf_hl Ho r < cf_pr k
      · obtain ⟨r, ⟨hr, er, lr⟩, ls⟩ := pk_least _ f
        exact cf_xpp_t h2 hk hr (cf_nm1 (by omega)) ⟨er, lr⟩ (fun j hj w => ls j hj ⟨by omega, w.2⟩) (cf_xpart_f (by omega) hk np (br_t rfl hp))
      · exact cf_xpp_f h2 hk (fun j hj w => f ⟨j, hj, w.2⟩) (cf_xpart_f (by omega) hk np (br_t rfl hp))
theorem i_vc_faults {k : Nat} {u : SX} {v : SY} (I : i_Rel k u v) (hk : k + 4 ≤ 2049) : wpX_faults (fun r => wpY_faults (fun r' => r' = r ∧ i_Rel (k + 4) u v) v) u := by
  obtain ⟨P, z, p, w, Ho, Pk, sp, wy, rfl, rfl, R⟩ := I
  have h2 := R.1.2.1
  have key : ∀ (post : Int32 → Prop), post 0 → ∀ d i : Nat, i + d = P → wX_faults_4 post (nI P) w Ho (fun j => nI (z j)) (fun j => nI (p j)) Pk sp (d + 1) 0 (nI i) := by
    intro post hp d
    induction d with
    | zero =>
      intro i hi
      exact br_t (nI_le (by omega) (by omega)) hp
    | succ d ih =>
      intro i hi
      exact br_f (nI_ge (by omega) (by omega)) (cf_xfaulty R.1 (by omega) (br_t rfl (nm_r (nI_1 i) (ih (i + 1) (by omega)))))
  exact ⟨P + 1, key _ ⟨rfl, cf_rel R⟩ P 0 (by omega)⟩
theorem i_vc_count {k : Nat} {u : SX} {v : SY} (I : i_Rel k u v) (hk : k + 4 ≤ 2049) (v1 : Int32) : wpX_count (fun r => wpY_count (fun r' => r' = r ∧ i_Rel (k + 4) u v) v v1) u v1 := by
  obtain ⟨P, z, p, w, Ho, Pk, sp, wy, rfl, rfl, R⟩ := I
  have R0 := R
  obtain ⟨⟨-, h2, hz, -, J, -, hw⟩, Z, -⟩ := R0
  refine cf_xcount hz (fun h hh j hj => cf_inst J.1 h2 hz hh hj) (cf_ycount hz ⟨congrArg nI ?_, cf_rel R⟩)
  refine cf_sm_congr (fun h hh => cf_cn_congr (fun j hj => ?_))
  show wy (16 * h + j) = v1 ↔ w (p h + j) = v1
  rw [hw h hh j hj]
