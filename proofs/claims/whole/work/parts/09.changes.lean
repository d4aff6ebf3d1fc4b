/-! exchange, allocate, free, resize, copy -/
theorem cf_nk_put {z : Nat → Nat} {h n c : Nat} (hh : h < 64) (dh : z h = 0) (n1 : 0 < n) : cf_nk (cf_u z h n) c = cf_nk z c + if c = cf_kd n then 1 else 0 := by
  have e := cf_nk_u (z := z) (x := n) (c := c) hh
  rw [cf_bf (fun q => by omega)] at e
  by_cases k : c = cf_kd n
  · rw [cf_bt ⟨n1, k.symm⟩] at e
    rw [if_pos k]
    omega
  · rw [cf_bf (fun q => k q.2.symm)] at e
    rw [if_neg k]
    omega
theorem cf_nk_rm {z : Nat → Nat} {h c : Nat} (hh : h < 64) (lh : 0 < z h) : cf_nk (cf_u z h 0) c + (if c = cf_kd (z h) then 1 else 0) = cf_nk z c := by
  have e := cf_nk_u (z := z) (x := 0) (c := c) hh
  rw [cf_bf (p := 0 < 0 ∧ cf_kd 0 = c) (fun q => absurd q.1 (Nat.lt_irrefl 0))] at e
  by_cases k : c = cf_kd (z h)
  · rw [cf_bt ⟨lh, k.symm⟩] at e
    rw [if_pos k]
    omega
  · rw [cf_bf (fun q => k q.2.symm)] at e
    rw [if_neg k]
    omega
theorem cf_nk_ex {z : Nat → Nat} {a b c : Nat} (ha : a < 64) (hb : b < 64) : cf_nk (cf_u (cf_u z a (z b)) b (z a)) c = cf_nk z c := by
  have e1 := cf_nk_u (z := z) (x := z b) (c := c) ha
  have e2 := cf_nk_u (z := cf_u z a (z b)) (x := z a) (c := c) hb
  have e3 : cf_u z a (z b) b = z b := by
    by_cases e : b = a
    · rw [e, cf_us]
    · rw [cf_un e]
  rw [e3] at e2
  omega
def cf_sw (wy : Nat → Int32) (a b i : Nat) : Nat → Int32 := fun q => if q / 16 = a ∧ q % 16 < i then wy (16 * b + q % 16) else if q / 16 = b ∧ q % 16 < i then wy (16 * a + q % 16) else wy q
theorem cf_sw_0 (wy : Nat → Int32) (a b : Nat) : cf_sw wy a b 0 = wy := by
  funext q
  unfold cf_sw
  rw [if_neg (by omega), if_neg (by omega)]
theorem cf_sw_at {wy : Nat → Int32} {a b i h : Nat} (hi : i < 16) : cf_sw wy a b i (16 * h + i) = wy (16 * h + i) := by
  unfold cf_sw
  rw [if_neg (by omega), if_neg (by omega)]
theorem cf_sw_s {wy : Nat → Int32} {a b i : Nat} (hi : i < 16) : upd (upd (cf_sw wy a b i) (16 * a + i) (wy (16 * b + i))) (16 * b + i) (wy (16 * a + i)) = cf_sw wy a b (i + 1) := by
  funext q
  by_cases e : q = 16 * b + i
  · rw [e, cf_vs]
    unfold cf_sw
    by_cases ab : b = a
    · rw [if_pos (by omega), ab, show (16 * a + i) % 16 = i from by omega]
    · rw [if_neg (by omega), if_pos (by omega), show (16 * b + i) % 16 = i from by omega]
  · rw [cf_vn e]
    by_cases e2 : q = 16 * a + i
    · rw [e2, cf_vs]
      unfold cf_sw
      rw [if_pos (by omega), show (16 * a + i) % 16 = i from by omega]
    · rw [cf_vn e2]
      unfold cf_sw
      by_cases c1 : q / 16 = a ∧ q % 16 < i
      · rw [if_pos c1, if_pos (by omega)]
      · rw [if_neg c1, if_neg (c := q / 16 = a ∧ q % 16 < i + 1) (by omega)]
        by_cases c2 : q / 16 = b ∧ q % 16 < i
        · rw [if_pos c2, if_pos (by omega)]
        · rw [if_neg c2, if_neg (by omega)]
theorem cf_sw_v {wy : Nat → Int32} {a b y j : Nat} (hj : j < 16) : cf_sw wy a b 16 (16 * y + j) = if y = a then wy (16 * b + j) else if y = b then wy (16 * a + j) else wy (16 * y + j) := by
  unfold cf_sw
  rw [show (16 * y + j) / 16 = y from by omega, show (16 * y + j) % 16 = j from by omega]
  by_cases c1 : y = a
  · rw [if_pos ⟨c1, hj⟩, if_pos c1]
  · rw [if_neg (fun q => c1 q.1), if_neg c1]
    by_cases c2 : y = b
    · rw [if_pos ⟨c2, hj⟩, if_pos c2]
    · rw [if_neg (fun q => c2 q.1), if_neg c2]
theorem cf_yexch {post : Int32 → SY → Prop} {f0 : Int32} {s wy : Nat → Int32} {a b : Nat} (ha : a < 64) (hb : b < 64) (hp : post 0 (f0, s, cf_sw wy a b 16)) : ∃ n, wY_exchange_47 post (nI a) (nI b) f0 n 0 s wy := by
  have key : ∀ d i : Nat, i + d = 16 → wY_exchange_47 post (nI a) (nI b) f0 (d + 1) (nI i) s (cf_sw wy a b i) := by
    intro d
    induction d with
    | zero =>
      intro i hi
      have e : i = 16 := by omega
      subst e
      exact br_t (nI_le (a := 16) (by omega) (by omega)) hp
    | succ d ih =>
      intro i hi
      have t := ih (i + 1) (by omega)
      rw [← cf_sw_s (by omega)] at t
      refine br_f (nI_ge (b := 16) (by omega) (by decide)) ⟨cf_iyi (by omega), nm_r (e' := wy (16 * a + i)) ?_ ⟨cf_iyi (by omega), cf_iyi (by omega), nm_r (e' := upd (cf_sw wy a b i) (16 * a + i) (wy (16 * b + i))) ?_ ⟨cf_iyi (by omega), nm_r ?_ (nm_r (nI_1 i) t)⟩⟩⟩
      · rw [cf_iy (by omega), cf_sw_at (by omega)]
      · rw [cf_iy (by omega), cf_iy (by omega), cf_sw_at (by omega)]
      · rw [cf_iy (by omega)]
  have k0 := key 16 0 rfl
  rw [cf_sw_0] at k0
  exact ⟨17, k0⟩
theorem i_vc_exchange {k : Nat} {u : SX} {v : SY} (I : i_Rel k u v) (hk : k + 4 ≤ 2049) (v1 : Int32) (v2 : Int32) : wpX_exchange (fun r u' => wpY_exchange (fun r' v' => r' = r ∧ i_Rel (k + 4) u' v') v v1 v2) u v1 v2 := by
  obtain ⟨P, z, p, w, Ho, Pk, sp, wy, rfl, rfl, R⟩ := I
  have hz := R.1.2.2.1
  have hpl := R.1.2.2.2.1
  unfold wpX_exchange wpY_exchange
  dsimp only
  rcases cf_goods z v1 with ⟨a, ha, la, rfl⟩ | hb
  · rcases cf_goods z v2 with ⟨b, hb, lb, rfl⟩ | hb
    · have ea : (nI a).toNatClampNeg = a := nI_clamp (by omega)
      have eb : (nI b).toNatClampNeg = b := nI_clamp (by omega)
      have ia : vp_in (nI a) 64 := vp_in_nI ha (by decide)
      have ib : vp_in (nI b) 64 := vp_in_nI hb (by decide)
      refine cf_xgood_t ha la hz (br_f (by decide) (cf_xgood_t hb lb hz (br_f (by decide) ⟨ia, nm_r (cf_szI ha) ⟨ia, nm_r (cf_szI (z := p) ha) ⟨ib, ia, nm_r (e' := fun j => nI (cf_u z a (z b) j)) ?_ ⟨ib, nm_r (e' := fun j => nI (cf_u (cf_u z a (z b)) b (z a) j)) ?_ ⟨ib, ?_⟩⟩⟩⟩⟩)))
      · rw [ea, eb]; exact cf_uI z a (z b)
      · rw [eb]; exact cf_uI _ b (z a)
      rw [eb]
      refine cf_xput ha (hpl b) (cf_xput hb (hpl a) ?_)
      dsimp only [cf_S]
      refine cf_ygood ha la hz (br_t rfl (cf_ygood hb lb hz (br_t rfl ⟨ia, nm_r (cf_szI ha) ⟨ib, ia, nm_r (e' := fun j => nI (cf_u z a (z b) j)) ?_ ⟨ib, nm_r (e' := fun j => nI (cf_u (cf_u z a (z b)) b (z a) j)) ?_ (cf_yexch ha hb ⟨rfl, ?_⟩)⟩⟩⟩)))
      · rw [ea]; exact cf_uI z a (z b)
      · exact cf_uI _ b (z a)
      refine cf_rel (z := cf_u (cf_u z a (z b)) b (z a)) (p := cf_u (cf_u p a (p b)) b (p a)) ?_
      have X1 := cf_exX R.1 ha hb la lb
      refine ⟨cf_Xc X1 (fun y hy j hj => ?_), fun y hy j hj hzj => ?_, ?_⟩
      · have l16 := X1.2.2.1 y
        rw [X1.2.2.2.2.2.2 y hy j hj]
        show (if y = b then fun j => wy (16 * a + j) else if y = a then fun j => wy (16 * b + j) else fun j => wy (16 * y + j)) j = cf_sw wy a b 16 (16 * y + j)
        rw [cf_sw_v (by omega)]
        by_cases c2 : y = b
        · rw [if_pos c2]
          by_cases c1 : y = a
          · rw [if_pos c1, show a = b from by omega]
          · rw [if_neg c1, if_pos c2]
        · rw [if_neg c2]
          by_cases c1 : y = a
          · rw [if_pos c1, if_pos c1]
          · rw [if_neg c1, if_neg c1, if_neg c2]
      · rw [cf_sw_v hj]
        by_cases c2 : y = b
        · rw [c2, cf_us] at hzj
          by_cases c1 : y = a
          · rw [if_pos c1]
            exact R.2.1 b hb j hj (by rw [show b = a from by omega]; exact hzj)
          · rw [if_neg c1, if_pos c2]
            exact R.2.1 a ha j hj hzj
        · rw [cf_un c2] at hzj
          by_cases c1 : y = a
          · rw [c1, cf_us] at hzj
            rw [if_pos c1]
            exact R.2.1 b hb j hj hzj
          · rw [cf_un c1] at hzj
            rw [if_neg c1, if_neg c2]
            exact R.2.1 y hy j hj hzj
      · rw [cf_nd_congr (f' := cf_nk z) (fun c _ => cf_nk_ex ha hb)]
        exact R.2.2
    · exact cf_xgood_t ha la hz (br_f (by decide) (cf_xgood_f hb (br_t rfl (cf_ygood ha la hz (br_t rfl (cf_ybad hb (br_f (by decide) ⟨rfl, cf_rel R⟩)))))))
  · exact cf_xgood_f hb (br_t rfl (cf_ybad hb (br_f (by decide) ⟨rfl, cf_rel R⟩)))
/-- the words of an object lie in the store -/
theorem cf_end {P : Nat} {z p : Nat → Nat} {c : Nat → Nat → Int32} {w Ho Pk : Nat → Int32} (X : cf_X P z p c w Ho Pk) {h : Nat} (hh : h < 64) : p h + z h ≤ 192 := by
  obtain ⟨-, h2, hz, hp, J, -, -⟩ := X
  by_cases e : z h = 0
  · have := hp h; omega
  · have := cf_inst J.1 h2 hz hh (i := z h - 1) (by omega)
    omega
theorem cf_big {z : Nat → Nat} {k : Nat} : cf_nd (fun c => cf_nk z c + if c = k then 1 else 0) < 2 ^ 31 := by
  have := cf_ndbig (f := fun c => cf_nk z c + if c = k then 1 else 0) (fun c _ => by
    show cf_nk z c + (if c = k then 1 else 0) ≤ 200
    have := cf_nk64 z c
    split <;> omega)
  omega
/-- a new object with words v -/
theorem cf_Rnew {P : Nat} {z p : Nat → Nat} {w Ho Pk wy : Nat → Int32} (R : cf_R P z p w Ho Pk wy) {h n q : Nat} {Ho' Pk' wy' v : Nat → Int32} (hh : h < 64) (dh : z h = 0) (n1 : 0 < n)
    (hn : cf_nd (fun c => cf_nk z c + if c = cf_kd n then 1 else 0) ≤ P)
    (X' : cf_X P (cf_u z h n) (cf_u p h q) (fun y j => if y = h then w (q + j) else wy (16 * y + j)) w Ho' Pk')
    (hv : ∀ j, j < n → wy' (16 * h + j) = v j) (hv0 : ∀ j, n ≤ j → j < 16 → wy' (16 * h + j) = 0) (ho : ∀ y, y < 64 → y ≠ h → ∀ j, j < 16 → wy' (16 * y + j) = wy (16 * y + j)) :
    cf_R P (cf_u z h n) (cf_u p h q) (cf_wr w q v n) Ho' Pk' wy' := by
  obtain ⟨X, Z, N⟩ := R
  have zh : cf_u z h n h = n := cf_us
  have ph : cf_u p h q h = q := cf_us
  have hz := X'.2.2.1
  have W := cf_Xw (c' := fun h j => wy' (16 * h + j)) X' (x := h) (a := 0) (n := n) (v := v) hh (by omega)
    (fun j hj => by show wy' (16 * h + (0 + j)) = v j; rw [Nat.zero_add]; exact hv j hj)
    (fun j hj hor => by omega)
    (fun y hy ny j hj => by
      have ly := hz y
      show wy' (16 * y + j) = if y = h then w (q + j) else wy (16 * y + j)
      rw [if_neg ny]
      exact ho y hy ny j (by omega))
  rw [ph] at W
  refine ⟨W, fun y hy j hj hzj => ?_, ?_⟩
  · by_cases e : y = h
    · rw [e, cf_us] at hzj
      rw [e]
      exact hv0 j hzj hj
    · rw [cf_un e] at hzj
      rw [ho y hy e j hj]
      exact Z y hy j hj hzj
  · rw [cf_nd_congr (f' := fun c => cf_nk z c + if c = cf_kd n then 1 else 0) (fun c _ => cf_nk_put hh dh n1)]
    exact hn
theorem i_vc_allocate {k : Nat} {u : SX} {v : SY} (I : i_Rel k u v) (hk : k + 4 ≤ 2049) (v1 : Int32) : wpX_allocate (fun r u' => wpY_allocate (fun r' v' => r' = r ∧ i_Rel (k + 4) u' v') v v1) u v1 := by
  obtain ⟨P, z, p, w, Ho, Pk, sp, wy, rfl, rfl, R⟩ := I
  have hz := R.1.2.2.1
  have h2 := R.1.2.1
  unfold wpX_allocate
  dsimp only
  rcases cf_sizes v1 with ⟨n, n1, n16, rfl⟩ | hb
  · by_cases f : ∃ h, h < 64 ∧ z h = 0
    · obtain ⟨h, ⟨hh, dh⟩, ls⟩ := pk_least _ f
      have hl : ∀ j, j < h → z j ≠ 0 := fun j hj e => ls j hj ⟨by omega, e⟩
      have k4 := cf_kd4 n
      refine cf_xsize_t n1 n16 (br_f (by decide) (cf_xlf_t hh dh hz hl (br_f (cf_nm1 (by omega)) (cf_xkind n16 (cf_xneed hz (fun c hc e => absurd e.symm (cf_nm1 (by omega))) ?_)))))
      rw [cf_fk k4]
      by_cases l : cf_nd (fun c => cf_nk z c + if c = cf_kd n then 1 else 0) ≤ P
      · refine br_t (nI_le l (by omega)) (cf_xsettle R.1 hh dh n1 n16 l (fun q Ho' Pk' X' => ?_))
        have zh : cf_u z h n h = n := cf_us
        have ph : cf_u p h q h = q := cf_us
        refine cf_xrest (m := 0) hh (by decide) (X'.2.2.1 h) (cf_end X' hh) ?_
        rw [zh, ph]
        dsimp only [cf_S]
        refine cf_ya0 h2 n1 n16 hz hh dh hl l ⟨rfl, cf_rel (cf_Rnew R hh dh n1 l X' (fun j hj => ?_) (fun j h1 h2 => ?_) (fun y hy ny j hj => ?_))⟩
        · rw [cf_wr_in (by omega)]
          exact (if_neg (by omega)).symm
        · exact cf_wr_in h2
        · exact cf_wr_out (fun m hm => by omega)
      · exact br_f (nI_ge (by omega) cf_big) (cf_ya3 h2 n1 n16 hz hh dh hl (by omega) cf_big ⟨rfl, cf_rel R⟩)
    · have hl : ∀ j, j < 64 → z j ≠ 0 := fun j hj e => f ⟨j, hj, e⟩
      exact cf_xsize_t n1 n16 (br_f (by decide) (cf_xlf_f hz hl (br_t rfl (cf_ya2 n1 n16 hz hl ⟨rfl, cf_rel R⟩))))
  · exact cf_xsize_f hb (br_t rfl (cf_ya1 hb ⟨rfl, cf_rel R⟩))
/-- an object goes, on both sides -/
theorem cf_Rrm {P : Nat} {z p : Nat → Nat} {w Ho Pk wy : Nat → Int32} (R : cf_R P z p w Ho Pk wy) {h : Nat} {p' : Nat → Nat} {w' Ho' Pk' : Nat → Int32} (hh : h < 64) (lh : 0 < z h)
    (X' : cf_X P (cf_u z h 0) p' (fun h j => wy (16 * h + j)) w' Ho' Pk') : cf_R P (cf_u z h 0) p' w' Ho' Pk' (cf_wr wy (16 * h) (fun _ => 0) 16) := by
  obtain ⟨X, Z, N⟩ := R
  have hz := X'.2.2.1
  refine ⟨cf_Xc X' (fun y hy j hj => ?_), fun y hy j hj hzj => ?_, ?_⟩
  · have ly := hz y
    have ny : y ≠ h := by
      intro e
      rw [e, cf_us] at hj
      omega
    rw [X'.2.2.2.2.2.2 y hy j hj]
    exact (cf_wr_out (fun m hm => by omega)).symm
  · by_cases e : y = h
    · rw [e]; exact cf_wr_in hj
    · rw [cf_un e] at hzj
      rw [cf_wr_out (fun m hm => by omega)]
      exact Z y hy j hj hzj
  · refine Nat.le_trans (cf_nd_mono (fun c _ => ?_)) N
    have := cf_nk_rm (c := c) hh lh
    omega
theorem i_vc_free {k : Nat} {u : SX} {v : SY} (I : i_Rel k u v) (hk : k + 4 ≤ 2049) (v1 : Int32) : wpX_free (fun r u' => wpY_free (fun r' v' => r' = r ∧ i_Rel (k + 4) u' v') v v1) u v1 := by
  obtain ⟨P, z, p, w, Ho, Pk, sp, wy, rfl, rfl, R⟩ := I
  have hz := R.1.2.2.1
  unfold wpX_free wpY_free
  dsimp only
  rcases cf_goods z v1 with ⟨h, hh, lh, rfl⟩ | hb
  · refine cf_xgood_t hh lh hz (br_f (by decide) ⟨vp_in_nI hh (by decide), nm_r (cf_szI hh) (cf_xvac R.1 hh lh (fun p' w' Ho' Pk' X' => ?_))⟩)
    exact cf_ygood hh lh hz (br_t rfl ⟨vp_in_nI hh (by decide), nm_r (cf_szI hh) (cf_ywipe hh ⟨rfl, cf_rel (cf_Rrm R hh lh X')⟩)⟩)
  · exact cf_xgood_f hb (br_t rfl (cf_ybad hb (br_f (by decide) ⟨rfl, cf_rel R⟩)))
theorem cf_ycopy {post : Int32 → SY → Prop} {f0 : Int32} {s wy : Nat → Int32} {a b : Nat} (ha : a < 64) (hb : b < 64) (n : a ≠ b) (hp : post (nI b) (f0, s, cf_wr wy (16 * b) (fun k => wy (16 * a + k)) 16)) : ∃ n, wY_copy_29 post (nI a) (nI b) f0 n 0 s wy := by
  have key : ∀ d i : Nat, i + d = 16 → wY_copy_29 post (nI a) (nI b) f0 (d + 1) (nI i) s (cf_wr wy (16 * b) (fun k => wy (16 * a + k)) i) := by
    intro d
    induction d with
    | zero =>
      intro i hi
      have e : i = 16 := by omega
      subst e
      exact br_t (nI_le (a := 16) (by omega) (by omega)) hp
    | succ d ih =>
      intro i hi
      have t := ih (i + 1) (by omega)
      rw [← cf_wr_s] at t
      refine br_f (nI_ge (b := 16) (by omega) (by decide)) ⟨cf_iyi (by omega), cf_iyi (by omega), nm_r ?_ (nm_r (nI_1 i) t)⟩
      rw [cf_iy (by omega), cf_iy (by omega), cf_wr_out (fun m hm => by omega)]
  have k0 := key 16 0 rfl
  rw [cf_wr_0] at k0
  exact ⟨17, k0⟩
theorem i_vc_copy {k : Nat} {u : SX} {v : SY} (I : i_Rel k u v) (hk : k + 4 ≤ 2049) (v1 : Int32) : wpX_copy (fun r u' => wpY_copy (fun r' v' => r' = r ∧ i_Rel (k + 4) u' v') v v1) u v1 := by
  obtain ⟨P, z, p, w, Ho, Pk, sp, wy, rfl, rfl, R⟩ := I
  have hz := R.1.2.2.1
  have h2 := R.1.2.1
  unfold wpX_copy wpY_copy
  dsimp only
  rcases cf_goods z v1 with ⟨h, hh, lh, rfl⟩ | hb
  · have l16 := hz h
    have eh : (nI h).toNatClampNeg = h := nI_clamp (by omega)
    have ih : vp_in (nI h) 64 := vp_in_nI hh (by decide)
    by_cases f : ∃ t, t < 64 ∧ z t = 0
    · obtain ⟨t, ⟨ht, dt⟩, ls⟩ := pk_least _ f
      have hl : ∀ j, j < t → z j ≠ 0 := fun j hj e => ls j hj ⟨by omega, e⟩
      have et : (nI t).toNatClampNeg = t := nI_clamp (by omega)
      have nt : h ≠ t := fun e => by rw [e] at lh; omega
      have k4 := cf_kd4 (z h)
      refine cf_xgood_t hh lh hz (br_f (by decide) (cf_xlf_t ht dt hz hl (br_f (cf_nm1 (by omega)) ⟨ih, nm_r (cf_szI hh) (cf_xkind l16 (cf_xneed hz (fun c hc e => absurd e.symm (cf_nm1 (by omega))) ?_))⟩)))
      rw [cf_fk k4, eh]
      by_cases l : cf_nd (fun c => cf_nk z c + if c = cf_kd (z h) then 1 else 0) ≤ P
      · refine br_t (nI_le l (by omega)) (cf_xsettle R.1 ht dt lh l16 l (fun q Ho' Pk' X' => ⟨ih, vp_in_nI ht (by decide), ?_⟩))
        have zt : cf_u z t (z h) t = z h := cf_us
        have pt : cf_u p t q t = q := cf_us
        have zh : cf_u z t (z h) h = z h := cf_un nt
        have ph : cf_u p t q h = p h := cf_un nt
        dsimp only [cf_S]
        rw [et, pt, ph]
        have A1 := cf_end X' hh
        have A2 := cf_end X' ht
        rw [zh, ph] at A1
        rw [zt, pt] at A2
        refine cf_xcopyw A1 A2 (fun i j hi hj => ?_) ?_
        · have d := cf_dis X'.2.2.2.2.1.1 X'.2.2.1 hh ht nt (i := i) (j := j) (by omega) (by omega)
          rw [ph, pt] at d
          exact d
        · dsimp only [cf_S]
          refine cf_ygood hh lh hz (br_t rfl ⟨ih, cf_ya0 h2 lh l16 hz ht dt hl l (br_t (nI_pos' (by omega)) (cf_ycopy hh ht nt ⟨rfl, cf_rel (cf_Rnew R ht dt lh l X' (fun j hj => ?_) (fun j h1 h2 => ?_) (fun y hy ny j hj => ?_))⟩))⟩)
          · rw [cf_wr_in (by omega)]
            show cf_wr wy (16 * t) (fun _ => 0) 16 (16 * h + j) = _
            rw [cf_wr_out (fun m hm => by omega)]
            exact (R.1.2.2.2.2.2.2 h hh j hj).symm
          · rw [cf_wr_in (by omega)]
            show cf_wr wy (16 * t) (fun _ => 0) 16 (16 * h + j) = _
            rw [cf_wr_out (fun m hm => by omega)]
            exact R.2.1 h hh j h2 h1
          · rw [cf_wr_out (fun m hm => by omega)]
            show cf_wr wy (16 * t) (fun _ => 0) 16 (16 * y + j) = _
            rw [cf_wr_out (fun m hm => by omega)]
      · exact br_f (nI_ge (by omega) cf_big) (cf_ygood hh lh hz (br_t rfl ⟨ih, cf_ya3 h2 lh l16 hz ht dt hl (by omega) cf_big (br_f (by decide) ⟨rfl, cf_rel R⟩)⟩))
    · have hl : ∀ j, j < 64 → z j ≠ 0 := fun j hj e => f ⟨j, hj, e⟩
      refine cf_xgood_t hh lh hz (br_f (by decide) (cf_xlf_f hz hl (br_t rfl (cf_ygood hh lh hz (br_t rfl ⟨ih, ?_⟩)))))
      rw [eh]
      exact cf_ya2 lh l16 hz hl (br_f (by decide) ⟨rfl, cf_rel R⟩)
  · exact cf_xgood_f hb (br_t rfl (cf_ybad hb (br_f (by decide) ⟨rfl, cf_rel R⟩)))
theorem cf_yres {post : Int32 → SY → Prop} {f0 x5 : Int32} {z : Nat → Nat} {wy : Nat → Int32} {h n : Nat} (hh : h < 64) (n16 : n ≤ 16)
    (hp : post x5 (cf_T f0 (cf_u z h n) (cf_wr wy (16 * h + n) (fun _ => 0) (16 - n)))) : ∃ m, wY_resize_72 post (nI h) (nI n) x5 f0 m (nI n) (fun j => nI (z j)) wy := by
  have key : ∀ d e : Nat, n + e + d = 16 → wY_resize_72 post (nI h) (nI n) x5 f0 (d + 1) (nI (n + e)) (fun j => nI (z j)) (cf_wr wy (16 * h + n) (fun _ => 0) e) := by
    intro d
    induction d with
    | zero =>
      intro e he
      refine br_t (nI_le (a := 16) (by omega) (by omega)) ⟨vp_in_nI hh (by decide), nm_r (e' := fun j => nI (cf_u z h n j)) ?_ ?_⟩
      · rw [nI_clamp (by omega)]; exact cf_uI z h n
      · rw [show e = 16 - n from by omega]; exact hp
    | succ d ih =>
      intro e he
      have t := ih (e + 1) (by omega)
      rw [← cf_wr_s, ← Nat.add_assoc] at t
      refine br_f (nI_ge (b := 16) (by omega) (by decide)) ⟨cf_iyi (by omega), nm_r ?_ (nm_r (nI_1 _) t)⟩
      rw [cf_iy (by omega), Nat.add_assoc]
  have k0 := key (16 - n) 0 (by omega)
  rw [cf_wr_0] at k0
  exact ⟨16 - n + 1, k0⟩
theorem i_vc_resize {k : Nat} {u : SX} {v : SY} (I : i_Rel k u v) (hk : k + 4 ≤ 2049) (v1 : Int32) (v2 : Int32) : wpX_resize (fun r u' => wpY_resize (fun r' v' => r' = r ∧ i_Rel (k + 4) u' v') v v1 v2) u v1 v2 := by
  obtain ⟨P, z, p, w, Ho, Pk, sp, wy, rfl, rfl, R⟩ := I
  have hz := R.1.2.2.1
  have h2 := R.1.2.1
  unfold wpX_resize wpY_resize
  dsimp only
  rcases cf_goods z v1 with ⟨h, hh, lh, rfl⟩ | hb
  · have l16 := hz h
    have eh : (nI h).toNatClampNeg = h := nI_clamp (by omega)
    have ih : vp_in (nI h) 64 := vp_in_nI hh (by decide)
    rcases cf_sizes v2 with ⟨n, n1, n16, rfl⟩ | hb
    · have k4 := cf_kd4 n
      have j4 := cf_kd4 (z h)
      have cond : ∀ c, c < 4 → nI (cf_kd (z h)) = nI c → 1 ≤ cf_nk z c := by
        intro c hc e
        have e2 := cf_inj (by omega) (by omega) e
        rw [← e2]
        exact cf_cn_in (p := fun i => 0 < z i ∧ cf_kd (z i) = cf_kd (z h)) hh ⟨lh, rfl⟩
      have eF : ∀ c, c < 4 → cf_nk z c + cf_am (nI (cf_kd n)) c 1 - cf_am (nI (cf_kd (z h))) c 1 = cf_nk (cf_u z h 0) c + if c = cf_kd n then 1 else 0 := by
        intro c hc
        have a := cf_nk_rm (c := c) hh lh
        rw [cf_am_k k4 hc, cf_am_k j4 hc]
        omega
      have eN := cf_nd_congr eF
      have big : cf_nd (fun c => cf_nk (cf_u z h 0) c + if c = cf_kd n then 1 else 0) < 2 ^ 31 := cf_big
      refine cf_xgood_t hh lh hz (br_f (by decide) (cf_xsize_t n1 n16 (br_f (by decide) ⟨ih, nm_r (cf_szI hh) (cf_xkind l16 (cf_xkind n16 (cf_xneed hz cond ?_)))⟩)))
      rw [eN]
      by_cases l : cf_nd (fun c => cf_nk (cf_u z h 0) c + if c = cf_kd n then 1 else 0) ≤ P
      · refine br_t (nI_le l (by omega)) (cf_xkeep hh l16 (cf_end R.1 hh) (cf_xvac R.1 hh lh (fun p' w' Ho' Pk' X' => cf_xsettle X' hh cf_us n1 n16 l (fun q Ho'' Pk'' X'' => cf_xrest hh l16 (X''.2.2.1 h) (cf_end X'' hh) ?_))))
        have zh : cf_u (cf_u z h 0) h n h = n := cf_us
        have ph : cf_u p' h q h = q := cf_us
        rw [zh, ph]
        dsimp only [cf_S]
        refine cf_ygood hh lh hz (br_t rfl (br_f (nI_nlt (b := 1) n1 (by omega)) (br_t (nI_le (b := 16) n16 (by decide)) (cf_ykind n16 ⟨ih, ?_⟩))))
        rw [eh]
        refine cf_ykind l16 (cf_yneed (m := 1) (l := 1) (by decide) (by decide) hz cond ?_)
        rw [eN]
        refine br_t (nI_le l (by omega)) ⟨ih, nm_e (cf_yres hh n16 ⟨rfl, ?_⟩)⟩
        have R1 := cf_Rrm R hh lh X'
        have R2 := cf_Rnew (wy' := cf_wr wy (16 * h + n) (fun _ => 0) (16 - n)) (v := fun k => if k < z h then cf_wr sp 0 (fun k => w (p h + k)) (z h) k else 0) R1 hh cf_us n1 l (q := q) (Ho' := Ho'') (Pk' := Pk'')
          (cf_Xc X'' (fun y hy j hj => by
            have ly := X''.2.2.1 y
            rw [X''.2.2.2.2.2.2 y hy j hj]
            show (if y = h then w' (q + j) else wy (16 * y + j)) = if y = h then w' (q + j) else cf_wr wy (16 * h) (fun _ => 0) 16 (16 * y + j)
            by_cases e : y = h
            · rw [if_pos e, if_pos e]
            · rw [if_neg e, if_neg e, cf_wr_out (fun m hm => by omega)]))
          (fun j hj => by
            show cf_wr wy (16 * h + n) (fun _ => 0) (16 - n) (16 * h + j) = if j < z h then cf_wr sp 0 (fun k => w (p h + k)) (z h) j else 0
            rw [cf_wr_out (fun m hm => by omega)]
            by_cases e : j < z h
            · have e0 := cf_wr_in (w := sp) (b := 0) (v := fun k => w (p h + k)) e
              rw [Nat.zero_add] at e0
              rw [if_pos e, e0]
              exact (R.1.2.2.2.2.2.2 h hh j e).symm
            · rw [if_neg e]
              exact R.2.1 h hh j (by omega) (by omega))
          (fun j h1 h2 => by
            obtain ⟨m, rfl⟩ : ∃ m, j = n + m := ⟨j - n, by omega⟩
            rw [← Nat.add_assoc]
            exact cf_wr_in (by omega))
          (fun y hy ny j hj => by
            rw [cf_wr_out (fun m hm => by omega), cf_wr_out (fun m hm => by omega)])
        rw [cf_uu] at R2
        rw [cf_uu]
        exact cf_rel R2
      · refine br_f (nI_ge (by omega) big) (cf_ygood hh lh hz (br_t rfl (br_f (nI_nlt (b := 1) n1 (by omega)) (br_t (nI_le (b := 16) n16 (by decide)) (cf_ykind n16 ⟨ih, ?_⟩)))))
        rw [eh]
        refine cf_ykind l16 (cf_yneed (m := 1) (l := 1) (by decide) (by decide) hz cond ?_)
        rw [eN]
        exact br_f (nI_ge (by omega) big) ⟨rfl, cf_rel R⟩
    · refine cf_xgood_t hh lh hz (br_f (by decide) (cf_xsize_f hb (br_t rfl (cf_ygood hh lh hz (br_t rfl (br_c (fun _ => ⟨rfl, cf_rel R⟩) (fun n => br_f ?_ ⟨rfl, cf_rel R⟩)))))))
      exact Int32.not_le.mpr (hb.resolve_left n)
  · exact cf_xgood_f hb (br_t rfl (cf_ybad hb (br_f (by decide) ⟨rfl, cf_rel R⟩)))
