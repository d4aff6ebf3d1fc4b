/-! freeClass -/
def cf_fc (z : Nat → Nat) (k i : Nat) : Nat → Nat := fun h => if h < i ∧ cf_kd (z h) = k then 0 else z h
def cf_fy (z : Nat → Nat) (k : Nat) (wy : Nat → Int32) (i : Nat) : Nat → Int32 := fun q => if q / 16 < i ∧ 0 < z (q / 16) ∧ cf_kd (z (q / 16)) = k then 0 else wy q
theorem cf_fc_0 (z : Nat → Nat) (k : Nat) : cf_fc z k 0 = z := by
  funext h
  exact if_neg (by omega)
theorem cf_fc_at (z : Nat → Nat) (k i : Nat) : cf_fc z k i i = z i := if_neg (fun q => Nat.lt_irrefl i q.1)
theorem cf_fc_s1 {z : Nat → Nat} {k i : Nat} (e : cf_kd (z i) = k) : cf_u (cf_fc z k i) i 0 = cf_fc z k (i + 1) := by
  funext h
  by_cases q : h = i
  · rw [q, cf_us]
    exact (if_pos ⟨Nat.lt_succ_self i, e⟩).symm
  · rw [cf_un q]
    unfold cf_fc
    by_cases c : h < i ∧ cf_kd (z h) = k
    · rw [if_pos c, if_pos ⟨by omega, c.2⟩]
    · rw [if_neg c, if_neg (fun r => c ⟨by omega, r.2⟩)]
theorem cf_fc_s0 {z : Nat → Nat} {k i : Nat} (e : ¬ (0 < z i ∧ cf_kd (z i) = k)) : cf_fc z k (i + 1) = cf_fc z k i := by
  funext h
  unfold cf_fc
  by_cases c : h < i ∧ cf_kd (z h) = k
  · rw [if_pos c, if_pos ⟨by omega, c.2⟩]
  · rw [if_neg c]
    by_cases d : h < i + 1 ∧ cf_kd (z h) = k
    · rw [if_pos d]
      have q : h = i := by
        by_cases r : h = i
        · exact r
        · exact absurd ⟨by omega, d.2⟩ c
      rw [q] at d ⊢
      by_cases z0 : z i = 0
      · exact z0.symm
      · exact absurd ⟨by omega, d.2⟩ e
    · rw [if_neg d]
theorem cf_fy_0 (z : Nat → Nat) (k : Nat) (wy : Nat → Int32) : cf_fy z k wy 0 = wy := by
  funext h
  exact if_neg (by omega)
theorem cf_fy_s1 {z : Nat → Nat} {k : Nat} {wy : Nat → Int32} {i : Nat} (e : 0 < z i ∧ cf_kd (z i) = k) : cf_wr (cf_fy z k wy i) (16 * i) (fun _ => 0) 16 = cf_fy z k wy (i + 1) := by
  funext q
  unfold cf_wr cf_fy
  by_cases r : 16 * i ≤ q ∧ q < 16 * i + 16
  · rw [if_pos r, show q / 16 = i from by omega, if_pos ⟨by omega, e⟩]
  · rw [if_neg r]
    by_cases c : q / 16 < i ∧ 0 < z (q / 16) ∧ cf_kd (z (q / 16)) = k
    · rw [if_pos c, if_pos ⟨by omega, c.2⟩]
    · rw [if_neg c, if_neg (fun d => c ⟨by omega, d.2⟩)]
theorem cf_fy_s0 {z : Nat → Nat} {k : Nat} {wy : Nat → Int32} {i : Nat} (e : ¬ (0 < z i ∧ cf_kd (z i) = k)) : cf_fy z k wy (i + 1) = cf_fy z k wy i := by
  funext q
  unfold cf_fy
  by_cases c : q / 16 < i ∧ 0 < z (q / 16) ∧ cf_kd (z (q / 16)) = k
  · rw [if_pos c, if_pos ⟨by omega, c.2⟩]
  · rw [if_neg c, if_neg (fun d => ?_)]
    by_cases r : q / 16 = i
    · rw [r] at d
      exact e d.2
    · exact c ⟨by omega, d.2⟩
theorem cf_xfc {post : Int32 → SX → Prop} {P k : Nat} {z p : Nat → Nat} {c : Nat → Nat → Int32} {w Ho Pk sp : Nat → Int32} (X : cf_X P z p c w Ho Pk) (hk : k < 4)
    (hp : ∀ p' w' Ho' Pk', cf_X P (cf_fc z k 64) p' c w' Ho' Pk' → post (nI (cf_nk z k)) (cf_S (nI P) w' Ho' (cf_fc z k 64) p' Pk' sp)) :
    ∃ n, wX_freeClass_13 post (nI k) n 0 0 (nI P) w Ho (fun j => nI (z j)) (fun j => nI (p j)) Pk sp := by
  have key : ∀ d i : Nat, i + d = 64 → ∀ (p' : Nat → Nat) (w' Ho' Pk' : Nat → Int32), cf_X P (cf_fc z k i) p' c w' Ho' Pk' →
      wX_freeClass_13 post (nI k) (d + 1) (nI (cf_cn (fun h => 0 < z h ∧ cf_kd (z h) = k) i)) (nI i) (nI P) w' Ho' (fun j => nI (cf_fc z k i j)) (fun j => nI (p' j)) Pk' sp := by
    intro d
    induction d with
    | zero =>
      intro i hi p' w' Ho' Pk' X'
      have e : i = 64 := by omega
      subst e
      exact br_t (nI_le (a := 64) (by omega) (by omega)) (hp _ _ _ _ X')
    | succ d ih =>
      intro i hi p' w' Ho' Pk' X'
      have t := ih (i + 1) (by omega)
      rw [cf_cn_s] at t
      have at_i := cf_fc_at z k i
      refine br_f (nI_ge (b := 64) (by omega) (by decide)) ?_
      by_cases e : 0 < z i ∧ cf_kd (z i) = k
      · rw [cf_bt e] at t
        refine cf_xok_t (by omega) X'.2.2.1 (by rw [at_i]; exact e) (br_f (by decide) (cf_xvac X' (by omega) (by rw [at_i]; exact e.1) (fun p1 w1 Ho1 Pk1 X1 => ?_)))
        rw [cf_fc_s1 e.2] at X1 ⊢
        exact nm_r (nI_1 _) (nm_r (nI_1 i) (t _ _ _ _ X1))
      · rw [cf_bf e, cf_fc_s0 e] at t
        exact cf_xok_f (by omega) X'.2.2.1 hk (by rw [at_i]; exact e) (br_t rfl (nm_r (nI_1 i) (t _ _ _ _ X')))
  have k0 := key 64 0 rfl p w Ho Pk (by rw [cf_fc_0]; exact X)
  rw [cf_fc_0] at k0
  exact ⟨65, k0⟩
theorem cf_yfc {post : Int32 → SY → Prop} {f0 : Int32} {k : Nat} {z : Nat → Nat} {wy : Nat → Int32} (hk : k < 4) (hz : ∀ j, z j ≤ 16)
    (hp : post (nI (cf_nk z k)) (cf_T f0 (cf_fc z k 64) (cf_fy z k wy 64))) : ∃ n, wY_freeClass_15 post (nI k) n 0 0 f0 (fun j => nI (z j)) wy := by
  have key : ∀ d i : Nat, i + d = 64 → wY_freeClass_15 post (nI k) (d + 1) (nI (cf_cn (fun h => 0 < z h ∧ cf_kd (z h) = k) i)) (nI i) f0 (fun j => nI (cf_fc z k i j)) (cf_fy z k wy i) := by
    intro d
    induction d with
    | zero =>
      intro i hi
      have e : i = 64 := by omega
      subst e
      exact br_t (nI_le (a := 64) (by omega) (by omega)) hp
    | succ d ih =>
      intro i hi
      have t := ih (i + 1) (by omega)
      rw [cf_cn_s] at t
      have l16 := hz i
      have k4 := cf_kd4 (z i)
      refine br_f (nI_ge (b := 64) (by omega) (by decide)) ⟨vp_in_nI (by omega) (by decide), ?_⟩
      rw [nI_clamp (by omega)]
      dsimp only
      rw [cf_fc_at]
      by_cases e0 : z i = 0
      · have e : ¬ (0 < z i ∧ cf_kd (z i) = k) := fun q => by omega
        rw [cf_bf e, cf_fc_s0 e, cf_fy_s0 e] at t
        exact br_t (show nI (z i) ≤ 0 from by rw [e0]; decide) (nm_r (nI_1 i) t)
      · refine br_f (nI_nle (n := z i) (by omega) (by omega)) ⟨vp_in_nI (by omega) (by decide), cf_ykind (n := z i) l16 ?_⟩
        by_cases ek : cf_kd (z i) = k
        · have e : 0 < z i ∧ cf_kd (z i) = k := ⟨by omega, ek⟩
          rw [cf_bt e, ← cf_fc_s1 ek, ← cf_fy_s1 e] at t
          exact br_t (by rw [ek]) (cf_ywipe (by omega) (nm_r (nI_1 _) (nm_r (nI_1 i) t)))
        · have e : ¬ (0 < z i ∧ cf_kd (z i) = k) := fun q => ek q.2
          rw [cf_bf e, cf_fc_s0 e, cf_fy_s0 e] at t
          exact br_f (fun q => ek (cf_inj (by omega) (by omega) q)) (nm_r (nI_1 i) t)
  have k0 := key 64 0 rfl
  rw [cf_fc_0, cf_fy_0] at k0
  exact ⟨65, k0⟩
theorem cf_cn_mono {p q : Nat → Prop} {n : Nat} (h : ∀ i, i < n → p i → q i) : cf_cn p n ≤ cf_cn q n :=
  cf_cn_inj p (fun i => i) n n q (fun i hi hp => ⟨hi, h i hi hp⟩) (fun _ _ _ _ _ _ e => e)
theorem i_vc_freeClass {k : Nat} {u : SX} {v : SY} (I : i_Rel k u v) (hk : k + 4 ≤ 2049) (v1 : Int32) : wpX_freeClass (fun r u' => wpY_freeClass (fun r' v' => r' = r ∧ i_Rel (k + 4) u' v') v v1) u v1 := by
  obtain ⟨P, z, p, w, Ho, Pk, sp, wy, rfl, rfl, R⟩ := I
  have hz := R.1.2.2.1
  unfold wpX_freeClass wpY_freeClass
  dsimp only
  rcases cf_kinds v1 with ⟨c, hc, rfl⟩ | hb
  · refine cf_xisk_t hc (br_f (by decide) (cf_xfc R.1 hc (fun p' w' Ho' Pk' X' => ?_)))
    refine br_f (nI_pos (by omega)) (br_t (nI_le (b := 3) (by omega) (by decide)) (cf_yfc hc hz ⟨rfl, cf_rel (z := cf_fc z c 64) (p := p') ⟨?_, ?_, ?_⟩⟩))
    · refine cf_Xc X' (fun y hy j hj => ?_)
      have ly := X'.2.2.1 y
      rw [X'.2.2.2.2.2.2 y hy j hj]
      show wy (16 * y + j) = cf_fy z c wy 64 (16 * y + j)
      unfold cf_fy
      rw [show (16 * y + j) / 16 = y from by omega, if_neg (fun q => ?_)]
      have e : cf_fc z c 64 y = 0 := if_pos ⟨hy, q.2.2⟩
      omega
    · intro y hy j hj hzj
      unfold cf_fy
      rw [show (16 * y + j) / 16 = y from by omega]
      by_cases q : y < 64 ∧ 0 < z y ∧ cf_kd (z y) = c
      · rw [if_pos q]
      · rw [if_neg q]
        refine R.2.1 y hy j hj ?_
        by_cases q2 : cf_kd (z y) = c
        · by_cases z0 : z y = 0
          · omega
          · exact absurd ⟨hy, by omega, q2⟩ q
        · have e : cf_fc z c 64 y = z y := if_neg (fun r => q2 r.2)
          omega
    · refine Nat.le_trans (cf_nd_mono (fun k _ => cf_cn_mono (fun i hi q => ?_))) R.2.2
      have q1 : 0 < cf_fc z c 64 i ∧ cf_kd (cf_fc z c 64 i) = k := q
      by_cases q2 : cf_kd (z i) = c
      · have e : cf_fc z c 64 i = 0 := if_pos ⟨hi, q2⟩
        omega
      · have e : cf_fc z c 64 i = z i := if_neg (fun r => q2 r.2)
        rw [e] at q1
        exact q1
  · refine cf_xisk_f hb (br_t rfl (br_c (fun _ => ⟨rfl, cf_rel R⟩) (fun n => br_f (fun q => ?_) ⟨rfl, cf_rel R⟩)))
    exact absurd (Int32.le_trans (hb.resolve_left n) q) (by decide)
