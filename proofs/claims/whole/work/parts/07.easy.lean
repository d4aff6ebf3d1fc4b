/-! the relation, and the methods that change little -/
def cf_R (P : Nat) (z p : Nat → Nat) (w Ho Pk wy : Nat → Int32) : Prop :=
  cf_X P z p (fun h j => wy (16 * h + j)) w Ho Pk ∧ (∀ h, h < 64 → ∀ j, j < 16 → z h ≤ j → wy (16 * h + j) = 0) ∧ cf_nd (cf_nk z) ≤ P
def i_Rel (k : Nat) (u : SX) (v : SY) : Prop :=
  ∃ (P : Nat) (z p : Nat → Nat) (w Ho Pk sp wy : Nat → Int32), u = (nI P, w, Ho, fun j => nI (z j), fun j => nI (p j), Pk, sp) ∧ v = (nI P, fun j => nI (z j), wy) ∧ cf_R P z p w Ho Pk wy
theorem i_up {k : Nat} {u : SX} {v : SY} (h : i_Rel k u v) : i_Rel (k + 4) u v := h
theorem cf_rel {k P : Nat} {z p : Nat → Nat} {w Ho Pk sp wy : Nat → Int32} (R : cf_R P z p w Ho Pk wy) : i_Rel k (cf_S (nI P) w Ho z p Pk sp) (cf_T (nI P) z wy) :=
  ⟨P, z, p, w, Ho, Pk, sp, wy, rfl, rfl, R⟩
theorem cf_init79 {post : SX → Prop} {f0 : Int32} (hp : ∀ Ho Pk : Nat → Int32, (∀ q, q < 192 → Ho q = -1) → (∀ g, g < 12 → Pk g = -1) → post (f0, fun _ => 0, Ho, fun _ => 0, fun _ => 0, Pk, fun _ => 0)) :
    ∃ n, wX_init_79 post f0 n 0 (fun _ => 0) (fun _ => 0) (fun _ => 0) (fun _ => 0) (fun _ => 0) (fun _ => 0) := by
  have key2 : ∀ Pk : Nat → Int32, (∀ g, g < 12 → Pk g = -1) → ∀ d i : Nat, i + d = 192 →
      wX_init_100 post f0 (d + 1) (nI i) (fun _ => 0) (cf_wr (fun _ => 0) 0 (fun _ => -1) i) (fun _ => 0) (fun _ => 0) Pk (fun _ => 0) := by
    intro Pk hPk d
    induction d with
    | zero =>
      intro i hi
      have e : i = 192 := by omega
      subst e
      refine br_t (nI_le (a := 192) (by omega) (by omega)) (hp _ _ (fun q hq => ?_) hPk)
      have := cf_wr_in (w := fun _ => (0 : Int32)) (b := 0) (v := fun _ => (-1 : Int32)) hq
      rw [Nat.zero_add] at this
      exact this
    | succ d ih =>
      intro i hi
      have t := ih (i + 1) (by omega)
      rw [← cf_wr_s, Nat.zero_add] at t
      refine br_f (nI_ge (b := 192) (by omega) (by decide)) ⟨vp_in_nI (by omega) (by decide), nm_r ?_ (nm_r (nI_1 i) t)⟩
      rw [nI_clamp (by omega)]
  have key1 : ∀ d i : Nat, i + d = 12 →
      wX_init_79 post f0 (d + 1) (nI i) (fun _ => 0) (fun _ => 0) (fun _ => 0) (fun _ => 0) (cf_wr (fun _ => 0) 0 (fun _ => -1) i) (fun _ => 0) := by
    intro d
    induction d with
    | zero =>
      intro i hi
      have e : i = 12 := by omega
      subst e
      have k2 := key2 (cf_wr (fun _ => 0) 0 (fun _ => -1) 12) (fun g hg => by
        have := cf_wr_in (w := fun _ => (0 : Int32)) (b := 0) (v := fun _ => (-1 : Int32)) hg
        rw [Nat.zero_add] at this
        exact this) 192 0 rfl
      rw [cf_wr_0] at k2
      exact br_t (nI_le (a := 12) (by omega) (by omega)) ⟨193, k2⟩
    | succ d ih =>
      intro i hi
      have t := ih (i + 1) (by omega)
      rw [← cf_wr_s, Nat.zero_add] at t
      refine br_f (nI_ge (b := 12) (by omega) (by decide)) ⟨vp_in_nI (by omega) (by decide), nm_r ?_ (nm_r (nI_1 i) t)⟩
      rw [nI_clamp (by omega)]
  have k1 := key1 12 0 rfl
  rw [cf_wr_0] at k1
  exact ⟨13, k1⟩
theorem cf_R0 {P : Nat} {Ho Pk : Nat → Int32} (h1 : 2 ≤ P) (h2 : P ≤ 12) (hH : ∀ q, q < 192 → Ho q = -1) (hK : ∀ g, g < 12 → Pk g = -1) : cf_R P (fun _ => 0) (fun _ => 0) (fun _ => 0) Ho Pk (fun _ => 0) := by
  refine ⟨⟨h1, h2, fun _ => Nat.zero_le _, fun _ => Nat.zero_lt_succ 191, ⟨?_, ?_, ?_⟩, ⟨?_, ?_⟩, ?_⟩, ?_, ?_⟩
  · intro h _ l
    exact absurd l (Nat.lt_irrefl 0)
  · intro q hq n
    exact absurd (hH q hq) n
  · intro g hg n
    exact absurd (hK g (by omega)) n
  · intro g hg n
    exact absurd (hK g (by omega)) n
  · intro g g' k hg _ hk e
    rw [hK g (by omega)] at e
    exact absurd e.symm (cf_nm1 (by omega))
  · intro h _ j hj
    exact absurd hj (Nat.not_lt_zero j)
  · intro h _ j _ _
    rfl
  · have e : cf_nd (cf_nk (fun _ => 0)) = cf_nd (fun _ => 0) := cf_nd_congr (fun c _ => cf_cn_none (fun i _ q => absurd q.1 (Nat.lt_irrefl 0)))
    rw [e]
    exact Nat.le_trans (Nat.le_of_eq (show cf_nd (fun _ => 0) = 0 from by decide)) (Nat.zero_le _)
theorem i_vc0 (k0 : Int32) : wpX_init (fun u => wpY_init (fun v => i_Rel 1 u v) k0) k0 := by
  by_cases a : 2 ≤ k0
  · by_cases b : k0 ≤ 12
    · obtain ⟨P, hP, rfl⟩ := nI_of2 (M := 12) (n := 12) (by decide) (Int32.not_lt.mpr (Int32.le_trans (by decide) a)) b
      have P2 : 2 ≤ P := (nI_leI (a := 2) (by decide) (by omega)).mp a
      exact br_t a (br_t b (cf_init79 (fun Ho Pk h1 h2 => br_t a (br_t b (cf_rel (z := fun _ => 0) (p := fun _ => 0) (cf_R0 P2 hP h1 h2))))))
    · exact br_t a (br_f b (cf_init79 (fun Ho Pk h1 h2 => br_t a (br_f b (cf_rel (P := 12) (z := fun _ => 0) (p := fun _ => 0) (cf_R0 (by decide) (by decide) h1 h2))))))
  · exact br_f a (br_t (by decide) (cf_init79 (fun Ho Pk h1 h2 => br_f a (cf_rel (P := 2) (z := fun _ => 0) (p := fun _ => 0) (cf_R0 (by decide) (by decide) h1 h2)))))
theorem i_vc_pages {k : Nat} {u : SX} {v : SY} (I : i_Rel k u v) (hk : k + 4 ≤ 2049) : wpX_pages (fun r => wpY_pages (fun r' => r' = r ∧ i_Rel (k + 4) u v) v) u := by
  obtain ⟨P, z, p, w, Ho, Pk, sp, wy, rfl, rfl, R⟩ := I
  exact ⟨rfl, cf_rel R⟩
theorem i_vc_size {k : Nat} {u : SX} {v : SY} (I : i_Rel k u v) (hk : k + 4 ≤ 2049) (v1 : Int32) : wpX_size (fun r => wpY_size (fun r' => r' = r ∧ i_Rel (k + 4) u v) v v1) u v1 := by
  obtain ⟨P, z, p, w, Ho, Pk, sp, wy, rfl, rfl, R⟩ := I
  have hz := R.1.2.2.1
  unfold wpX_size wpY_size
  dsimp only
  rcases cf_goods z v1 with ⟨h, hh, lh, rfl⟩ | hb
  · exact cf_xgood_t hh lh hz (br_f (by decide) ⟨vp_in_nI hh (by decide), cf_ygood hh lh hz (br_t rfl ⟨vp_in_nI hh (by decide), rfl, cf_rel R⟩)⟩)
  · exact cf_xgood_f hb (br_t rfl (cf_ybad hb (br_f (by decide) ⟨rfl, cf_rel R⟩)))
theorem i_vc_read {k : Nat} {u : SX} {v : SY} (I : i_Rel k u v) (hk : k + 4 ≤ 2049) (v1 : Int32) (v2 : Int32) : wpX_read (fun r => wpY_read (fun r' => r' = r ∧ i_Rel (k + 4) u v) v v1 v2) u v1 v2 := by
  obtain ⟨P, z, p, w, Ho, Pk, sp, wy, rfl, rfl, R⟩ := I
  have R0 := R
  obtain ⟨⟨-, h2, hz, -, J, -, hw⟩, -, -⟩ := R0
  unfold wpX_read wpY_read
  dsimp only
  rcases cf_goods z v1 with ⟨h, hh, lh, rfl⟩ | hb
  · have l16 := hz h
    have en : (nI h).toNatClampNeg = h := nI_clamp (by omega)
    rcases cf_words (z h) l16 v2 with ⟨j, hj, rfl⟩ | hx
    · have q := cf_inst J.1 h2 hz hh hj
      refine cf_xgood_t hh lh hz (br_f (by decide) (cf_xword_t hh hz hj (br_f (by decide) ⟨vp_in_nI hh (by decide), ?_⟩)))
      rw [en]
      refine ⟨cf_ii q (by decide), ?_⟩
      refine cf_ygood hh lh hz (br_t rfl (br_f (nI_pos (by omega)) ⟨vp_in_nI hh (by decide), br_t (nI_lt hj (by omega)) ⟨cf_iyi (by omega), ?_, cf_rel R⟩⟩))
      rw [cf_ix (by omega), cf_iy (by omega)]
      exact (hw h hh j hj).symm
    · refine cf_xgood_t hh lh hz (br_f (by decide) (cf_xword_f hh hx (br_t rfl (cf_ygood hh lh hz (br_t rfl (br_c (fun _ => ⟨rfl, cf_rel R⟩) (fun n1 => ⟨vp_in_nI hh (by decide), br_f ?_ ⟨rfl, cf_rel R⟩⟩)))))))
      rw [en]
      exact Int32.not_lt.mpr (hx.resolve_left n1)
  · exact cf_xgood_f hb (br_t rfl (cf_ybad hb (br_f (by decide) ⟨rfl, cf_rel R⟩)))
theorem cf_wr_1 (w : Nat → Int32) (b : Nat) (x : Int32) : upd w b x = cf_wr w b (fun _ => x) 1 := by
  rw [← cf_wr_s w b (fun _ => x) 0, cf_wr_0, Nat.add_zero]
/-- an object gets other words, on both sides -/
theorem cf_Rw {P : Nat} {z p : Nat → Nat} {w Ho Pk wy : Nat → Int32} (R : cf_R P z p w Ho Pk wy) {x a n : Nat} {v : Nat → Int32} (hx : x < 64) (hn : a + n ≤ z x) :
    cf_R P z p (cf_wr w (p x + a) v n) Ho Pk (cf_wr wy (16 * x + a) v n) := by
  obtain ⟨X, Z, N⟩ := R
  have hz := X.2.2.1
  have l16 := hz x
  refine ⟨cf_Xw X hx hn (fun j hj => ?_) (fun j hj hor => ?_) (fun y hy ny j hj => ?_), fun y hy j hj hzj => ?_, N⟩
  · show cf_wr wy (16 * x + a) v n (16 * x + (a + j)) = v j
    rw [← Nat.add_assoc, cf_wr_in hj]
  · exact cf_wr_out (fun m hm => by omega)
  · have ly := hz y
    exact cf_wr_out (fun m hm => by omega)
  · rw [cf_wr_out (fun m hm => ?_)]
    · exact Z y hy j hj hzj
    · intro e
      have e2 : y = x := by omega
      rw [e2] at hzj e
      omega
theorem i_vc_write {k : Nat} {u : SX} {v : SY} (I : i_Rel k u v) (hk : k + 4 ≤ 2049) (v1 : Int32) (v2 : Int32) (v3 : Int32) : wpX_write (fun r u' => wpY_write (fun r' v' => r' = r ∧ i_Rel (k + 4) u' v') v v1 v2 v3) u v1 v2 v3 := by
  obtain ⟨P, z, p, w, Ho, Pk, sp, wy, rfl, rfl, R⟩ := I
  have R0 := R
  obtain ⟨⟨-, h2, hz, -, J, -, hw⟩, -, -⟩ := R0
  unfold wpX_write wpY_write
  dsimp only
  rcases cf_goods z v1 with ⟨h, hh, lh, rfl⟩ | hb
  · have l16 := hz h
    have en : (nI h).toNatClampNeg = h := nI_clamp (by omega)
    rcases cf_words (z h) l16 v2 with ⟨j, hj, rfl⟩ | hx
    · have q := cf_inst J.1 h2 hz hh hj
      refine cf_xgood_t hh lh hz (br_f (by decide) (cf_xword_t hh hz hj (br_f (by decide) ⟨vp_in_nI hh (by decide), ?_⟩)))
      rw [en]
      refine ⟨cf_ii q (by decide), nm_r (e' := cf_wr w (p h + j) (fun _ => v3) 1) ?_ ?_⟩
      · rw [cf_ix (by omega), cf_wr_1]
      refine cf_ygood hh lh hz (br_t rfl (br_f (nI_pos (by omega)) ⟨vp_in_nI hh (by decide), br_t (nI_lt hj (by omega)) ⟨cf_iyi (by omega), nm_r (e' := cf_wr wy (16 * h + j) (fun _ => v3) 1) ?_ ⟨rfl, cf_rel (cf_Rw R hh (by omega))⟩⟩⟩))
      rw [cf_iy (by omega), cf_wr_1]
    · refine cf_xgood_t hh lh hz (br_f (by decide) (cf_xword_f hh hx (br_t rfl (cf_ygood hh lh hz (br_t rfl (br_c (fun _ => ⟨rfl, cf_rel R⟩) (fun n1 => ⟨vp_in_nI hh (by decide), br_f ?_ ⟨rfl, cf_rel R⟩⟩)))))))
      rw [en]
      exact Int32.not_lt.mpr (hx.resolve_left n1)
  · exact cf_xgood_f hb (br_t rfl (cf_ybad hb (br_f (by decide) ⟨rfl, cf_rel R⟩)))
theorem cf_xfill {post : Int32 → SX → Prop} {f0 v2 v3 : Int32} {w Ho s pl Pk sp : Nat → Int32} {q n : Nat} (hn : n ≤ 16) (hq : q + n ≤ 192)
    (hp : post (nI n) (f0, cf_wr w q (fun k => v2 + nI k * v3) n, Ho, s, pl, Pk, sp)) : ∃ m, wX_fill_29 post v2 v3 (nI n) (nI q) f0 m 0 w Ho s pl Pk sp := by
  have key : ∀ d i : Nat, i + d = n → wX_fill_29 post v2 v3 (nI n) (nI q) f0 (d + 1) (nI i) (cf_wr w q (fun k => v2 + nI k * v3) i) Ho s pl Pk sp := by
    intro d
    induction d with
    | zero =>
      intro i hi
      have e : i = n := by omega
      rw [e]
      exact br_t (nI_le (Nat.le_refl _) (by omega)) hp
    | succ d ih =>
      intro i hi
      have t := ih (i + 1) (by omega)
      rw [← cf_wr_s] at t
      refine br_f (nI_ge (by omega) (by omega)) ⟨cf_ii (by omega) (by decide), nm_r ?_ (nm_r (nI_1 i) t)⟩
      rw [cf_ix (by omega)]
  have k0 := key n 0 (by omega)
  rw [cf_wr_0] at k0
  exact ⟨n + 1, k0⟩
theorem cf_yfill {post : Int32 → SY → Prop} {f0 v2 v3 : Int32} {z : Nat → Nat} {wy : Nat → Int32} {h : Nat} (hh : h < 64) (hz : z h ≤ 16)
    (hp : post (nI (z h)) (cf_T f0 z (cf_wr wy (16 * h) (fun k => v2 + nI k * v3) (z h)))) : ∃ m, wY_fill_13 post (nI h) v2 v3 f0 m 0 (fun j => nI (z j)) wy := by
  have en : (nI h).toNatClampNeg = h := nI_clamp (by omega)
  have key : ∀ d i : Nat, i + d = z h → wY_fill_13 post (nI h) v2 v3 f0 (d + 1) (nI i) (fun j => nI (z j)) (cf_wr wy (16 * h) (fun k => v2 + nI k * v3) i) := by
    intro d
    induction d with
    | zero =>
      intro i hi
      have e : i = z h := by omega
      rw [e]
      refine ⟨vp_in_nI hh (by decide), br_t ?_ ⟨vp_in_nI hh (by decide), ?_⟩⟩
      · rw [en]; exact nI_le (b := z h) (Nat.le_refl _) (by omega)
      · rw [en]; exact hp
    | succ d ih =>
      intro i hi
      have t := ih (i + 1) (by omega)
      rw [← cf_wr_s] at t
      refine ⟨vp_in_nI hh (by decide), br_f ?_ (br_f (nI_ge (b := 16) (by omega) (by decide)) ⟨cf_iyi (by omega), nm_r ?_ (nm_r (nI_1 i) t)⟩)⟩
      · rw [en]; exact nI_ge (b := z h) (by omega) (by omega)
      · rw [cf_iy (by omega)]
  have k0 := key (z h) 0 (by omega)
  rw [cf_wr_0] at k0
  exact ⟨z h + 1, k0⟩
theorem i_vc_fill {k : Nat} {u : SX} {v : SY} (I : i_Rel k u v) (hk : k + 4 ≤ 2049) (v1 : Int32) (v2 : Int32) (v3 : Int32) : wpX_fill (fun r u' => wpY_fill (fun r' v' => r' = r ∧ i_Rel (k + 4) u' v') v v1 v2 v3) u v1 v2 v3 := by
  obtain ⟨P, z, p, w, Ho, Pk, sp, wy, rfl, rfl, R⟩ := I
  have R0 := R
  obtain ⟨⟨-, h2, hz, -, J, -, hw⟩, -, -⟩ := R0
  unfold wpX_fill wpY_fill
  dsimp only
  rcases cf_goods z v1 with ⟨h, hh, lh, rfl⟩ | hb
  · have l16 := hz h
    have q := cf_inst J.1 h2 hz hh (i := z h - 1) (by omega)
    refine cf_xgood_t hh lh hz (br_f (by decide) ⟨vp_in_nI hh (by decide), nm_r (cf_szI hh) ⟨vp_in_nI hh (by decide), nm_r (cf_szI (z := p) hh) (cf_xfill l16 (by omega) ?_)⟩⟩)
    refine cf_ygood hh lh hz (br_t rfl (cf_yfill hh l16 ⟨rfl, ?_⟩))
    exact cf_rel (cf_Rw R (a := 0) hh (by omega))
  · exact cf_xgood_f hb (br_t rfl (cf_ybad hb (br_f (by decide) ⟨rfl, cf_rel R⟩)))
theorem cf_xlive {post : Int32 → Prop} {f0 : Int32} {w Ho : Nat → Int32} {z p : Nat → Nat} {Pk sp : Nat → Int32} (hz : ∀ j, z j ≤ 16) (hp : post (nI (cf_cn (fun h => 0 < z h) 64))) : wpX_live post (cf_S f0 w Ho z p Pk sp) := by
  have key : ∀ d i : Nat, i + d = 64 → wX_live_4 post f0 w Ho (fun j => nI (z j)) (fun j => nI (p j)) Pk sp (d + 1) (nI (cf_cn (fun h => 0 < z h) i)) (nI i) := by
    intro d
    induction d with
    | zero =>
      intro i hi
      have e : i = 64 := by omega
      subst e
      exact br_t (nI_le (a := 64) (by omega) (by omega)) hp
    | succ d ih =>
      intro i hi
      have t := ih (i + 1) (by omega)
      rw [cf_cn_s] at t
      have l16 := hz i
      refine br_f (nI_ge (b := 64) (by omega) (by decide)) ⟨vp_in_nI (by omega) (by decide), ?_⟩
      rw [nI_clamp (by omega)]
      by_cases e0 : z i = 0
      · rw [cf_bf (fun q => by omega)] at t
        exact br_t (show nI (z i) ≤ 0 from by rw [e0]; decide) (nm_r (nI_1 i) t)
      · rw [cf_bt (by omega)] at t
        exact br_f (nI_nle (n := z i) (by omega) (by omega)) (nm_r (nI_1 _) (nm_r (nI_1 i) t))
  exact ⟨65, key 64 0 rfl⟩
theorem cf_ylive {post : Int32 → Prop} {f0 : Int32} {z : Nat → Nat} {wy : Nat → Int32} (hz : ∀ j, z j ≤ 16) (hp : post (nI (cf_cn (fun h => 0 < z h) 64))) : wpY_live post (cf_T f0 z wy) := by
  have key : ∀ d i : Nat, i + d = 64 → wY_live_4 post f0 (fun j => nI (z j)) wy (d + 1) (nI (cf_cn (fun h => 0 < z h) i)) (nI i) := by
    intro d
    induction d with
    | zero =>
      intro i hi
      have e : i = 64 := by omega
      subst e
      exact br_t (nI_le (a := 64) (by omega) (by omega)) hp
    | succ d ih =>
      intro i hi
      have t := ih (i + 1) (by omega)
      rw [cf_cn_s] at t
      have l16 := hz i
      refine br_f (nI_ge (b := 64) (by omega) (by decide)) ⟨vp_in_nI (by omega) (by decide), ?_⟩
      rw [nI_clamp (by omega)]
      by_cases e0 : z i = 0
      · rw [cf_bf (fun q => by omega)] at t
        exact br_t (show nI (z i) ≤ 0 from by rw [e0]; decide) (nm_r (nI_1 i) t)
      · rw [cf_bt (by omega)] at t
        exact br_f (nI_nle (n := z i) (by omega) (by omega)) (nm_r (nI_1 _) (nm_r (nI_1 i) t))
  exact ⟨65, key 64 0 rfl⟩
theorem i_vc_live {k : Nat} {u : SX} {v : SY} (I : i_Rel k u v) (hk : k + 4 ≤ 2049) : wpX_live (fun r => wpY_live (fun r' => r' = r ∧ i_Rel (k + 4) u v) v) u := by
  obtain ⟨P, z, p, w, Ho, Pk, sp, wy, rfl, rfl, R⟩ := I
  have hz := R.1.2.2.1
  exact cf_xlive hz (cf_ylive hz ⟨rfl, cf_rel R⟩)
theorem i_vc_liveIn {k : Nat} {u : SX} {v : SY} (I : i_Rel k u v) (hk : k + 4 ≤ 2049) (v1 : Int32) : wpX_liveIn (fun r => wpY_liveIn (fun r' => r' = r ∧ i_Rel (k + 4) u v) v v1) u v1 := by
  obtain ⟨P, z, p, w, Ho, Pk, sp, wy, rfl, rfl, R⟩ := I
  have hz := R.1.2.2.1
  unfold wpX_liveIn wpY_liveIn
  dsimp only
  rcases cf_kinds v1 with ⟨c, hc, rfl⟩ | hb
  · exact cf_xisk_t hc (br_f (by decide) (cf_xobj hc hz (br_f (nI_pos (by omega)) (br_t (nI_le (b := 3) (by omega) (by decide)) (cf_yalive hc hz ⟨rfl, cf_rel R⟩)))))
  · refine cf_xisk_f hb (br_t rfl (br_c (fun _ => ⟨rfl, cf_rel R⟩) (fun n => br_f (fun q => ?_) ⟨rfl, cf_rel R⟩)))
    exact absurd (Int32.le_trans (hb.resolve_left n) q) (by decide)
theorem i_vc_needed {k : Nat} {u : SX} {v : SY} (I : i_Rel k u v) (hk : k + 4 ≤ 2049) : wpX_needed (fun r => wpY_needed (fun r' => r' = r ∧ i_Rel (k + 4) u v) v) u := by
  obtain ⟨P, z, p, w, Ho, Pk, sp, wy, rfl, rfl, R⟩ := I
  have hz := R.1.2.2.1
  unfold wpX_needed wpY_needed
  dsimp only
  refine cf_xneed hz (fun c hc e => absurd e.symm (cf_nm1 (by omega))) (cf_yneed (m := 0) (l := 0) (by decide) (by decide) hz (fun _ _ _ => Nat.zero_le _) ⟨?_, cf_rel R⟩)
  refine congrArg nI (cf_nd_congr (fun c hc => ?_))
  show cf_nk z c + cf_am (-1) c 0 - cf_am (-1) c 0 = cf_nk z c + cf_am (-1) c 1 - cf_am (-1) c 1
  rw [cf_am_m hc, cf_am_m hc]
/-- how many more of a class there could be -/
theorem cf_room {n : Nat → Nat} {P k : Nat} (hk : k < 4) (hP : P ≤ 12) (h : cf_nd n ≤ P) : ∃ o, cf_nd n = o + cf_pg k (n k) ∧ o ≤ P ∧ n k ≤ (P - o) * cf_pr k ∧ (P - o) * cf_pr k ≤ 96 ∧
    ∀ m, cf_nd (fun c => n c + if c = k then m else 0) ≤ P ↔ n k + m ≤ (P - o) * cf_pr k := by
  have key : ∀ o, (cf_nd n = o + cf_pg k (n k)) → (∀ m, cf_nd (fun c => n c + if c = k then m else 0) = o + cf_pg k (n k + m)) → ∃ o, cf_nd n = o + cf_pg k (n k) ∧ o ≤ P ∧ n k ≤ (P - o) * cf_pr k ∧ (P - o) * cf_pr k ≤ 96 ∧
      ∀ m, cf_nd (fun c => n c + if c = k then m else 0) ≤ P ↔ n k + m ≤ (P - o) * cf_pr k := by
    intro o e em
    refine ⟨o, e, by omega, (cf_pg_iff hk).mp (by omega), ?_, fun m => ?_⟩
    · have a := cf_pr8 hk
      exact Nat.le_trans (Nat.mul_le_mul (show P - o ≤ 12 from by omega) a.2) (by decide)
    · rw [em m, ← cf_pg_iff hk]
      omega
  rcases cf_4 hk with rfl | rfl | rfl | rfl
  · refine key (cf_pg 1 (n 1) + cf_pg 2 (n 2) + cf_pg 3 (n 3)) (by unfold cf_nd; omega) (fun m => ?_)
    show cf_pg 0 (n 0 + m) + cf_pg 1 (n 1 + 0) + cf_pg 2 (n 2 + 0) + cf_pg 3 (n 3 + 0) = _
    simp only [Nat.add_zero]
    omega
  · refine key (cf_pg 0 (n 0) + cf_pg 2 (n 2) + cf_pg 3 (n 3)) (by unfold cf_nd; omega) (fun m => ?_)
    show cf_pg 0 (n 0 + 0) + cf_pg 1 (n 1 + m) + cf_pg 2 (n 2 + 0) + cf_pg 3 (n 3 + 0) = _
    simp only [Nat.add_zero]
    omega
  · refine key (cf_pg 0 (n 0) + cf_pg 1 (n 1) + cf_pg 3 (n 3)) (by unfold cf_nd; omega) (fun m => ?_)
    show cf_pg 0 (n 0 + 0) + cf_pg 1 (n 1 + 0) + cf_pg 2 (n 2 + m) + cf_pg 3 (n 3 + 0) = _
    simp only [Nat.add_zero]
    omega
  · refine key (cf_pg 0 (n 0) + cf_pg 1 (n 1) + cf_pg 2 (n 2)) (by unfold cf_nd; omega) (fun m => ?_)
    show cf_pg 0 (n 0 + 0) + cf_pg 1 (n 1 + 0) + cf_pg 2 (n 2 + 0) + cf_pg 3 (n 3 + m) = _
    simp only [Nat.add_zero]
theorem cf_ndbig {f : Nat → Nat} (h : ∀ c, c < 4 → f c ≤ 200) : cf_nd f ≤ 400 := by
  have a := cf_nd_mono (f' := fun _ => 200) h
  exact Nat.le_trans a (by decide)
theorem cf_yroom {post : Int32 → Prop} {P k r : Nat} {z : Nat → Nat} {wy : Nat → Int32} (hP : P ≤ 12) (hk : k < 4) (hz : ∀ j, z j ≤ 16) (hr : r ≤ 96)
    (hm : ∀ m, cf_nd (fun c => cf_nk z c + if c = k then m else 0) ≤ P ↔ m ≤ r) (hp : post (nI r)) : ∃ n, wY_roomFor_15 post (nI k) (nI P) (fun j => nI (z j)) wy n 0 1 := by
  have key : ∀ d i : Nat, i + d = 96 → wY_roomFor_15 post (nI k) (nI P) (fun j => nI (z j)) wy (d + 1) (nI (min i r)) (nI (i + 1)) := by
    intro d
    induction d with
    | zero =>
      intro i hi
      have e : i = 96 := by omega
      subst e
      refine br_t (nI_lt (a := 96) (by omega) (by omega)) ?_
      rw [show min 96 r = r from by omega]
      exact hp
    | succ d ih =>
      intro i hi
      have t := ih (i + 1) (by omega)
      have e : cf_nd (fun c => cf_nk z c + cf_am (nI k) c (i + 1) - cf_am (-1) c 0) = cf_nd (fun c => cf_nk z c + if c = k then i + 1 else 0) :=
        cf_nd_congr (fun c hc => by
          show cf_nk z c + cf_am (nI k) c (i + 1) - cf_am (-1) c 0 = cf_nk z c + if c = k then i + 1 else 0
          rw [cf_am_k hk hc, cf_am_m hc, Nat.sub_zero])
      have big : cf_nd (fun c => cf_nk z c + if c = k then i + 1 else 0) ≤ 400 := cf_ndbig (fun c hc => by
        show cf_nk z c + (if c = k then i + 1 else 0) ≤ 200
        have := cf_nk64 z c
        split <;> omega)
      refine br_f (nI_nlt (a := 96) (by omega) (by decide)) (cf_yneed (m := i + 1) (l := 0) (by omega) (by decide) hz (fun _ _ _ => Nat.zero_le _) ?_)
      rw [e]
      by_cases l : i + 1 ≤ r
      · have a := (hm (i + 1)).mpr l
        rw [show min (i + 1) r = i + 1 from by omega] at t
        exact br_f (nI_nlt a (by omega)) (nm_r (nI_1 _) t)
      · have a : P < cf_nd (fun c => cf_nk z c + if c = k then i + 1 else 0) := by
          by_cases q : cf_nd (fun c => cf_nk z c + if c = k then i + 1 else 0) ≤ P
          · exact absurd ((hm (i + 1)).mp q) l
          · omega
        rw [show min (i + 1) r = min i r from by omega] at t
        exact br_t (nI_lt a (by omega)) (nm_r (nI_1 _) t)
  have k0 := key 96 0 rfl
  rw [Nat.zero_min] at k0
  exact ⟨97, k0⟩
theorem i_vc_roomFor {k : Nat} {u : SX} {v : SY} (I : i_Rel k u v) (hk : k + 4 ≤ 2049) (v1 : Int32) : wpX_roomFor (fun r => wpY_roomFor (fun r' => r' = r ∧ i_Rel (k + 4) u v) v v1) u v1 := by
  obtain ⟨P, z, p, w, Ho, Pk, sp, wy, rfl, rfl, R⟩ := I
  have hz := R.1.2.2.1
  have hP := R.1.2.1
  unfold wpX_roomFor wpY_roomFor
  dsimp only
  rcases cf_kinds v1 with ⟨c, hc, rfl⟩ | hb
  · obtain ⟨o, e1, e2, e3, e4, e5⟩ := cf_room hc hP R.2.2
    have n64 := cf_nk64 z c
    have pr := cf_pr8 hc
    have en : cf_nd (fun c => cf_nk z c + cf_am (-1) c 1 - cf_am (-1) c 1) = cf_nd (cf_nk z) := cf_nd_congr (fun c hc => by
      show cf_nk z c + cf_am (-1) c 1 - cf_am (-1) c 1 = cf_nk z c
      rw [cf_am_m hc]
      omega)
    refine cf_xisk_t hc (br_f (by decide) (cf_xobj hc hz (cf_xneed hz (fun c hc e => absurd e.symm (cf_nm1 (by omega))) (cf_xpg hc (by omega) (nm_r (e' := nI o) ?_ (cf_xper hc ?_))))))
    · rw [en, pk_sub (by omega), e1, Nat.add_sub_cancel]
    · refine br_f (nI_pos (by omega)) (br_t (nI_le (b := 3) (by omega) (by decide)) (cf_yroom (r := (P - o) * cf_pr c - cf_nk z c) hP hc hz (by omega) (fun m => ?_) ⟨?_, cf_rel R⟩))
      · rw [e5 m]
        omega
      · rw [pk_sub e2, pk_mul, pk_sub e3]
  · refine cf_xisk_f hb (br_t rfl (br_c (fun _ => ⟨rfl, cf_rel R⟩) (fun n => br_f (fun q => ?_) ⟨rfl, cf_rel R⟩)))
    exact absurd (Int32.le_trans (hb.resolve_left n) q) (by decide)
