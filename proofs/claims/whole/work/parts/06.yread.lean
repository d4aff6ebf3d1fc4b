/-! the reference's methods -/
abbrev cf_T (f0 : Int32) (z : Nat → Nat) (wy : Nat → Int32) : SY := (f0, fun j => nI (z j), wy)
section
variable {f0 : Int32} {z : Nat → Nat} {wy : Nat → Int32}
theorem cf_ygood {post : Int32 → Prop} {h : Nat} (hh : h < 64) (lh : 0 < z h) (hz : ∀ j, z j ≤ 16) (hp : post 0) : wpY_bad post (cf_T f0 z wy) (nI h) := by
  have l16 := hz h
  refine br_f (nI_pos (by omega)) (br_f (nI_nlt (a := 63) (by omega) (by decide)) ⟨vp_in_nI hh (by decide), br_f ?_ hp⟩)
  rw [nI_clamp (by omega)]
  exact nI_ne0 (n := z h) lh (by omega)
theorem cf_ybad {post : Int32 → Prop} {x : Int32} (h : cf_bad z x) (hp : post 1) : wpY_bad post (cf_T f0 z wy) x := by
  refine br_c (fun _ => hp) (fun n1 => br_c (fun _ => hp) (fun n2 => ?_))
  rcases h with h | h | ⟨j, hj, ej, rfl⟩
  · exact absurd h n1
  · exact absurd (Int32.lt_of_lt_of_le (by decide) h) n2
  · refine ⟨vp_in_nI hj (by decide), br_t ?_ hp⟩
    rw [nI_clamp (by omega)]
    show nI (z j) = 0
    rw [ej]
    rfl
theorem cf_ykind {post : Int32 → Prop} {n : Nat} (hn : n ≤ 16) (hp : post (nI (cf_kd n))) : wpY_kindOf post (cf_T f0 z wy) (nI n) := by
  refine pk_le 3 n (fun a => pk_le 5 n (fun b => pk_le 9 n (fun c => ?_) (fun c => ?_)) (fun b => ?_)) (fun a => ?_)
  · rw [cf_kd3 (by omega)] at hp; exact hp
  · rw [cf_kd2 (by omega) (by omega)] at hp; exact hp
  · rw [cf_kd1 (by omega) (by omega)] at hp; exact hp
  · rw [cf_kd0 (by omega)] at hp; exact hp
theorem cf_yalive {post : Int32 → Prop} {k : Nat} (hk : k < 4) (hz : ∀ j, z j ≤ 16) (hp : post (nI (cf_nk z k))) : wpY_alive post (cf_T f0 z wy) (nI k) := by
  have key : ∀ d i : Nat, i + d = 64 → wY_alive_4 post (nI k) f0 (fun j => nI (z j)) wy (d + 1) (nI (cf_cn (fun h => 0 < z h ∧ cf_kd (z h) = k) i)) (nI i) := by
    intro d
    induction d with
    | zero =>
      intro i hi
      have e : i = 64 := by omega
      subst e
      exact br_t (nI_le (a := 64) (by omega) (by omega)) hp
    | succ d ih =>
      intro i hi
      have t := ih (i + 1) (by omega)
      rw [cf_cn_s] at t
      have l16 := hz i
      have k4 := cf_kd4 (z i)
      refine br_f (nI_ge (b := 64) (by omega) (by decide)) ⟨vp_in_nI (by omega) (by decide), ?_⟩
      rw [nI_clamp (by omega)]
      by_cases e0 : z i = 0
      · rw [cf_bf (fun q => by omega)] at t
        exact br_t (show nI (z i) ≤ 0 from by rw [e0]; decide) (nm_r (nI_1 i) t)
      · refine br_f (nI_nle (n := z i) (by omega) (by omega)) ⟨vp_in_nI (by omega) (by decide), cf_ykind (n := z i) l16 ?_⟩
        by_cases ek : cf_kd (z i) = k
        · rw [cf_bt ⟨by omega, ek⟩] at t
          exact br_t (by rw [ek]) (nm_r (nI_1 _) (nm_r (nI_1 i) t))
        · rw [cf_bf (fun q => ek q.2)] at t
          exact br_f (fun q => ek (cf_inj (by omega) (by omega) q)) (nm_r (nI_1 i) t)
  exact ⟨65, key 64 0 rfl⟩
theorem cf_pgY {n k : Nat} (hk : k < 4) (hn : n ≤ 300) : ((nI n + nI (cf_pr k)) - 1) / nI (cf_pr k) = nI (cf_pg k n) := by
  have a := cf_pr8 hk
  show ((nI n + nI (cf_pr k)) - nI 1) / nI (cf_pr k) = nI (cf_pg k n)
  rw [nI_add, pk_sub (by omega), pk_div (by omega) (by omega) (by omega), show n + cf_pr k - 1 = n + (cf_pr k - 1) from by omega]
  rfl
theorem cf_yneed {post : Int32 → Prop} {x1 x3 : Int32} {m l : Nat} (hm : m ≤ 100) (hl : l ≤ 1) (hz : ∀ j, z j ≤ 16) (h3 : ∀ c, c < 4 → x3 = nI c → l ≤ cf_nk z c)
    (hp : post (nI (cf_nd (fun c => cf_nk z c + cf_am x1 c m - cf_am x3 c l)))) : wpY_needs post (cf_T f0 z wy) x1 (nI m) x3 (nI l) := by
  rw [← cf_nd_sm] at hp
  have key : ∀ d i : Nat, i + d = 4 → wY_needs_6 post x1 (nI m) x3 (nI l) f0 (fun j => nI (z j)) wy (d + 1) (nI (cf_sm (fun c => cf_pg c (cf_nk z c + cf_am x1 c m - cf_am x3 c l)) i)) (nI i) := by
    intro d
    induction d with
    | zero =>
      intro i hi
      have e : i = 4 := by omega
      subst e
      exact br_t (nI_le (a := 4) (by omega) (by omega)) hp
    | succ d ih =>
      intro i hi
      have t := ih (i + 1) (by omega)
      rw [cf_sm_s] at t
      have n64 := cf_nk64 z i
      have i4 : i < 4 := by omega
      have pr := cf_pr8 i4
      refine br_f (nI_ge (b := 4) i4 (by decide)) (cf_yalive i4 hz ?_)
      have s45 : ∀ q, q ≤ 300 → q = cf_nk z i + cf_am x1 i m - cf_am x3 i l → wY_needs_45 post (wY_needs_6 post x1 (nI m) x3 (nI l) f0 (fun j => nI (z j)) wy (d + 1)) x1 (nI m) x3 (nI l) (nI (cf_sm (fun c => cf_pg c (cf_nk z c + cf_am x1 c m - cf_am x3 c l)) i)) (nI i) (nI q) f0 (fun j => nI (z j)) wy := by
        intro q hq eq
        refine nm_r (cf_sr i i4) (br_t (nI_le (a := 1) pr.1 (by omega)) ⟨nI_ne0 (by omega) (by omega), nm_r ?_ (nm_r (nI_1 i) t)⟩)
        rw [cf_pgY i4 hq, nI_add, eq]
      have s32 : ∀ q, q ≤ 299 → q = cf_nk z i + cf_am x1 i m → wY_needs_32 post (wY_needs_6 post x1 (nI m) x3 (nI l) f0 (fun j => nI (z j)) wy (d + 1)) x1 (nI m) x3 (nI l) (nI (cf_sm (fun c => cf_pg c (cf_nk z c + cf_am x1 c m - cf_am x3 c l)) i)) (nI i) (nI q) f0 (fun j => nI (z j)) wy := by
        intro q hq eq
        refine br_c (fun a => ?_) (fun a => ?_)
        · have g := h3 i i4 a.symm
          have e2 : cf_am x3 i l = l := if_pos a.symm
          exact nm_r (pk_sub (by omega)) (s45 _ (by omega) (by omega))
        · have e2 : cf_am x3 i l = 0 := if_neg (fun b => a b.symm)
          exact s45 q (by omega) (by omega)
      refine br_c (fun a => ?_) (fun a => ?_)
      · have e1 : cf_am x1 i m = m := if_pos a.symm
        exact nm_r (nI_add _ _) (s32 _ (by omega) (by omega))
      · have e1 : cf_am x1 i m = 0 := if_neg (fun b => a b.symm)
        exact s32 _ (by omega) (by omega)
  exact ⟨5, key 4 0 rfl⟩
theorem cf_ylf_t {post : Int32 → Prop} {h : Nat} (hh : h < 64) (h0 : z h = 0) (hz : ∀ j, z j ≤ 16) (hl : ∀ j, j < h → z j ≠ 0) (hp : post (nI h)) : wpY_leastFree post (cf_T f0 z wy) := by
  have key : ∀ d i : Nat, i + d = h → wY_leastFree_2 post f0 (fun j => nI (z j)) wy (d + 1) (nI i) := by
    intro d
    induction d with
    | zero =>
      intro i hi
      have e : i = h := by omega
      rw [e]
      refine br_f (nI_ge (b := 64) hh (by decide)) ⟨vp_in_nI hh (by decide), br_t ?_ hp⟩
      rw [nI_clamp (by omega)]
      show nI (z h) = 0
      rw [h0]
      rfl
    | succ d ih =>
      intro i hi
      have l16 := hz i
      have n0 := hl i (by omega)
      refine br_f (nI_ge (b := 64) (by omega) (by decide)) ⟨vp_in_nI (by omega) (by decide), br_f ?_ (nm_r (nI_1 i) (ih (i + 1) (by omega)))⟩
      rw [nI_clamp (by omega)]
      exact nI_ne0 (n := z i) (by omega) (by omega)
  exact ⟨h + 1, key h 0 (by omega)⟩
theorem cf_ylf_f {post : Int32 → Prop} (hz : ∀ j, z j ≤ 16) (hl : ∀ j, j < 64 → z j ≠ 0) (hp : post (-1)) : wpY_leastFree post (cf_T f0 z wy) := by
  have key : ∀ d i : Nat, i + d = 64 → wY_leastFree_2 post f0 (fun j => nI (z j)) wy (d + 1) (nI i) := by
    intro d
    induction d with
    | zero =>
      intro i hi
      exact br_t (nI_le (a := 64) (by omega) (by omega)) hp
    | succ d ih =>
      intro i hi
      have l16 := hz i
      have n0 := hl i (by omega)
      refine br_f (nI_ge (b := 64) (by omega) (by decide)) ⟨vp_in_nI (by omega) (by decide), br_f ?_ (nm_r (nI_1 i) (ih (i + 1) (by omega)))⟩
      rw [nI_clamp (by omega)]
      exact nI_ne0 (n := z i) (by omega) (by omega)
  exact ⟨65, key 64 0 rfl⟩
theorem cf_ywipe {post : SY → Prop} {h : Nat} (hh : h < 64) (hp : post (cf_T f0 (cf_u z h 0) (cf_wr wy (16 * h) (fun _ => 0) 16))) : wpY_wipe post (cf_T f0 z wy) (nI h) := by
  have key : ∀ d i : Nat, i + d = 16 → wY_wipe_9 post (nI h) f0 (d + 1) (nI i) (fun j => nI (cf_u z h 0 j)) (cf_wr wy (16 * h) (fun _ => 0) i) := by
    intro d
    induction d with
    | zero =>
      intro i hi
      have e : i = 16 := by omega
      subst e
      exact br_t (nI_le (a := 16) (by omega) (by omega)) hp
    | succ d ih =>
      intro i hi
      have t := ih (i + 1) (by omega)
      rw [← cf_wr_s] at t
      refine br_f (nI_ge (b := 16) (by omega) (by decide)) ⟨cf_iyi (by omega), nm_r ?_ (nm_r (nI_1 i) t)⟩
      rw [cf_iy (by omega)]
  have k0 := key 16 0 rfl
  rw [cf_wr_0] at k0
  refine ⟨vp_in_nI hh (by decide), nm_r (e' := fun j => nI (cf_u z h 0 j)) ?_ ⟨17, k0⟩⟩
  rw [nI_clamp (by omega)]
  exact cf_uI z h 0
theorem cf_ya1 {post : Int32 → SY → Prop} {x : Int32} (h : x < 1 ∨ 16 < x) (hp : post (-1) (cf_T f0 z wy)) : wpY_allocate post (cf_T f0 z wy) x := by
  refine br_c (fun _ => hp) (fun n => br_f ?_ hp)
  exact Int32.not_le.mpr (h.resolve_left n)
theorem cf_ya2 {post : Int32 → SY → Prop} {n : Nat} (h1 : 1 ≤ n) (h2 : n ≤ 16) (hz : ∀ j, z j ≤ 16) (hl : ∀ j, j < 64 → z j ≠ 0) (hp : post (-2) (cf_T f0 z wy)) : wpY_allocate post (cf_T f0 z wy) (nI n) :=
  br_f (nI_nlt (b := 1) h1 (by omega)) (br_t (nI_le (b := 16) h2 (by decide)) (cf_ylf_f hz hl (br_f (by decide) hp)))
theorem cf_fk {k l : Nat} (hk : k < 4) : cf_nd (fun c => cf_nk z c + cf_am (nI k) c 1 - cf_am (-1) c l) = cf_nd (fun c => cf_nk z c + if c = k then 1 else 0) :=
  cf_nd_congr (fun c hc => by
    show cf_nk z c + cf_am (nI k) c 1 - cf_am (-1) c l = cf_nk z c + if c = k then 1 else 0
    rw [cf_am_k hk hc, cf_am_m hc, Nat.sub_zero])
theorem cf_ya3 {post : Int32 → SY → Prop} {P n h : Nat} (hP : P ≤ 12) (h1 : 1 ≤ n) (h2 : n ≤ 16) (hz : ∀ j, z j ≤ 16) (hh : h < 64) (h0 : z h = 0) (hl : ∀ j, j < h → z j ≠ 0)
    (hn : P < cf_nd (fun c => cf_nk z c + if c = cf_kd n then 1 else 0)) (hb : cf_nd (fun c => cf_nk z c + if c = cf_kd n then 1 else 0) < 2 ^ 31) (hp : post (-3) (cf_T (nI P) z wy)) : wpY_allocate post (cf_T (nI P) z wy) (nI n) := by
  refine br_f (nI_nlt (b := 1) h1 (by omega)) (br_t (nI_le (b := 16) h2 (by decide)) (cf_ylf_t hh h0 hz hl (br_t (nI_pos' (by omega)) (cf_ykind h2 (cf_yneed (m := 1) (l := 0) (by decide) (by decide) hz (fun _ _ _ => Nat.zero_le _) (br_f ?_ hp))))))
  rw [cf_fk (cf_kd4 n)]
  exact nI_ge hn hb
theorem cf_ya0 {post : Int32 → SY → Prop} {P n h : Nat} (hP : P ≤ 12) (h1 : 1 ≤ n) (h2 : n ≤ 16) (hz : ∀ j, z j ≤ 16) (hh : h < 64) (h0 : z h = 0) (hl : ∀ j, j < h → z j ≠ 0)
    (hn : cf_nd (fun c => cf_nk z c + if c = cf_kd n then 1 else 0) ≤ P) (hp : post (nI h) (cf_T (nI P) (cf_u z h n) (cf_wr wy (16 * h) (fun _ => 0) 16))) : wpY_allocate post (cf_T (nI P) z wy) (nI n) := by
  refine br_f (nI_nlt (b := 1) h1 (by omega)) (br_t (nI_le (b := 16) h2 (by decide)) (cf_ylf_t hh h0 hz hl (br_t (nI_pos' (by omega)) (cf_ykind h2 (cf_yneed (m := 1) (l := 0) (by decide) (by decide) hz (fun _ _ _ => Nat.zero_le _) (br_t ?_ (cf_ywipe hh ⟨vp_in_nI hh (by decide), nm_r (e' := fun j => nI (cf_u z h n j)) ?_ hp⟩)))))))
  · rw [cf_fk (cf_kd4 n)]
    exact nI_le hn (by omega)
  · rw [nI_clamp (by omega), cf_uI, cf_uu]
end
