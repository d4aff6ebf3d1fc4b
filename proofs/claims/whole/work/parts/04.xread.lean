/-! numbers -/
theorem cf_ix {a b : Nat} (h : a + b < 2 ^ 31) : (nI a + nI b).toNatClampNeg = a + b := by rw [nI_add, nI_clamp h]
theorem cf_ii {a b N : Nat} (h : a + b < N) (hN : N < 2 ^ 31) : vp_in (nI a + nI b) N := by rw [nI_add]; exact vp_in_nI h hN
theorem cf_16 (h : Nat) : (16 : Int32) * nI h = nI (16 * h) := pk_mul 16 h
theorem cf_iy {h j : Nat} (e : 16 * h + j < 2 ^ 31) : ((16 : Int32) * nI h + nI j).toNatClampNeg = 16 * h + j := by rw [cf_16]; exact cf_ix e
theorem cf_iyi {h j : Nat} (e : 16 * h + j < 1024) : vp_in ((16 : Int32) * nI h + nI j) 1024 := by rw [cf_16]; exact cf_ii e (by decide)
theorem cf_sl : ∀ k, k < 4 → (2 : Int32) <<< (nI k &&& 31) = nI (cf_wd k) := by decide
theorem cf_sr : ∀ k, k < 4 → (8 : Int32) >>> (nI k &&& 31) = nI (cf_pr k) := by decide
theorem cf_kd0 {n : Nat} (h : n ≤ 2) : cf_kd n = 0 := by unfold cf_kd; rw [if_pos h]
theorem cf_kd1 {n : Nat} (h : 2 < n) (h2 : n ≤ 4) : cf_kd n = 1 := by unfold cf_kd; rw [if_neg (by omega), if_pos h2]
theorem cf_kd2 {n : Nat} (h : 4 < n) (h2 : n ≤ 8) : cf_kd n = 2 := by unfold cf_kd; rw [if_neg (by omega), if_neg (by omega), if_pos h2]
theorem cf_kd3 {n : Nat} (h : 8 < n) : cf_kd n = 3 := by unfold cf_kd; rw [if_neg (by omega), if_neg (by omega), if_neg (by omega)]
/-! what an argument can be -/
theorem cf_sizes (x : Int32) : (∃ n, 1 ≤ n ∧ n ≤ 16 ∧ x = nI n) ∨ (x < 1 ∨ 16 < x) := by
  rcases pk_ix x (n := 17) (by decide) with h | h | ⟨j, hj, rfl⟩
  · exact Or.inr (Or.inl (Int32.lt_trans h (by decide)))
  · exact Or.inr (Or.inr (Int32.lt_of_lt_of_le (by decide) h))
  · by_cases e : j = 0
    · rw [e]; exact Or.inr (Or.inl (by decide))
    · exact Or.inl ⟨j, by omega, by omega, rfl⟩
theorem cf_kinds (x : Int32) : (∃ k, k < 4 ∧ x = nI k) ∨ (x < 0 ∨ 4 ≤ x) := by
  rcases pk_ix x (n := 4) (by decide) with h | h | ⟨j, hj, rfl⟩
  · exact Or.inr (Or.inl h)
  · exact Or.inr (Or.inr h)
  · exact Or.inl ⟨j, hj, rfl⟩
def cf_bad (z : Nat → Nat) (x : Int32) : Prop := x < 0 ∨ 64 ≤ x ∨ ∃ h, h < 64 ∧ z h = 0 ∧ x = nI h
theorem cf_goods (z : Nat → Nat) (x : Int32) : (∃ h, h < 64 ∧ 0 < z h ∧ x = nI h) ∨ cf_bad z x := by
  rcases pk_ix x (n := 64) (by decide) with h | h | ⟨j, hj, rfl⟩
  · exact Or.inr (Or.inl h)
  · exact Or.inr (Or.inr (Or.inl h))
  · by_cases e : z j = 0
    · exact Or.inr (Or.inr (Or.inr ⟨j, hj, e, rfl⟩))
    · exact Or.inl ⟨j, hj, by omega, rfl⟩
theorem cf_words (n : Nat) (hn : n ≤ 16) (x : Int32) : (∃ j, j < n ∧ x = nI j) ∨ (x < 0 ∨ nI n ≤ x) := by
  rcases pk_ix x (n := n) (by omega) with h | h | ⟨j, hj, rfl⟩
  · exact Or.inr (Or.inl h)
  · exact Or.inr (Or.inr h)
  · exact Or.inl ⟨j, hj, rfl⟩
/-! the component's small methods -/
theorem cf_xsize_t {post : Int32 → Prop} {n : Nat} (h1 : 1 ≤ n) (h2 : n ≤ 16) (hp : post 1) : wpX_isSize post (nI n) :=
  br_f (nI_nlt (b := 1) h1 (by omega)) (br_f (nI_nlt (a := 16) h2 (by decide)) hp)
theorem cf_xsize_f {post : Int32 → Prop} {x : Int32} (h : x < 1 ∨ 16 < x) (hp : post 0) : wpX_isSize post x :=
  br_c (fun _ => hp) (fun n => br_t (h.resolve_left n) hp)
theorem cf_xkind {post : Int32 → Prop} {n : Nat} (hn : n ≤ 16) (hp : post (nI (cf_kd n))) : wpX_kindOf post (nI n) := by
  unfold wpX_kindOf
  refine pk_lt 2 n (fun a => pk_lt 4 n (fun b => pk_lt 8 n (fun c => ?_) (fun c => ?_)) (fun b => ?_)) (fun a => ?_)
  · rw [cf_kd3 c] at hp; exact hp
  · rw [cf_kd2 b c] at hp; exact hp
  · rw [cf_kd1 a b] at hp; exact hp
  · rw [cf_kd0 a] at hp; exact hp
theorem cf_xisk_t {post : Int32 → Prop} {k : Nat} (hk : k < 4) (hp : post 1) : wpX_isKind post (nI k) :=
  br_f (nI_pos (by omega)) (br_f (nI_ge (b := 4) hk (by decide)) hp)
theorem cf_xisk_f {post : Int32 → Prop} {x : Int32} (h : x < 0 ∨ 4 ≤ x) (hp : post 0) : wpX_isKind post x :=
  br_c (fun _ => hp) (fun n => br_t (h.resolve_left n) hp)
theorem cf_xslot {post : Int32 → Prop} {k : Nat} (hk : k < 4) (hp : post (nI (cf_wd k))) : wpX_slotWords post (nI k) := by
  unfold wpX_slotWords
  rw [cf_sl k hk]
  exact hp
theorem cf_xper {post : Int32 → Prop} {k : Nat} (hk : k < 4) (hp : post (nI (cf_pr k))) : wpX_perPage post (nI k) := by
  unfold wpX_perPage
  rw [cf_sr k hk]
  exact hp
theorem cf_pgI {n k : Nat} (hk : k < 4) (hn : n ≤ 200) : (((nI n * nI (cf_wd k)) + 16) - 1) / 16 = nI (cf_pg k n) := by
  show (((nI n * nI (cf_wd k)) + nI 16) - nI 1) / nI 16 = nI (cf_pg k n)
  rw [pk_mul, nI_add, pk_sub (by omega)]
  rcases cf_4 hk with rfl | rfl | rfl | rfl
  · rw [show cf_wd 0 = 2 from rfl, pk_div (by omega) (by decide) (by decide), cf_pg0, show (n * 2 + 16 - 1) / 16 = (n + 7) / 8 from by omega]
  · rw [show cf_wd 1 = 4 from rfl, pk_div (by omega) (by decide) (by decide), cf_pg1, show (n * 4 + 16 - 1) / 16 = (n + 3) / 4 from by omega]
  · rw [show cf_wd 2 = 8 from rfl, pk_div (by omega) (by decide) (by decide), cf_pg2, show (n * 8 + 16 - 1) / 16 = (n + 1) / 2 from by omega]
  · rw [show cf_wd 3 = 16 from rfl, pk_div (by omega) (by decide) (by decide), cf_pg3, show (n * 16 + 16 - 1) / 16 = n from by omega]
theorem cf_xpg {post : Int32 → Prop} {n k : Nat} (hk : k < 4) (hn : n ≤ 200) (hp : post (nI (cf_pg k n))) : wpX_pagesFor post (nI n) (nI k) := by
  unfold wpX_pagesFor
  refine cf_xslot hk ⟨by decide, ?_⟩
  rw [cf_pgI hk hn]
  exact hp
abbrev cf_S (f0 : Int32) (w Ho : Nat → Int32) (z p : Nat → Nat) (Pk sp : Nat → Int32) : SX := (f0, w, Ho, fun j => nI (z j), fun j => nI (p j), Pk, sp)
section
variable {f0 : Int32} {w Ho : Nat → Int32} {z p : Nat → Nat} {Pk sp : Nat → Int32}
theorem cf_szI {h : Nat} (hh : h < 64) : (fun j => nI (z j)) (nI h).toNatClampNeg = nI (z h) := by
  show nI (z (nI h).toNatClampNeg) = nI (z h)
  rw [nI_clamp (by omega)]
theorem cf_xgood_t {post : Int32 → Prop} {h : Nat} (hh : h < 64) (lh : 0 < z h) (hz : ∀ j, z j ≤ 16) (hp : post 1) : wpX_isGood post (cf_S f0 w Ho z p Pk sp) (nI h) := by
  have l16 := hz h
  exact br_f (nI_pos (by omega)) (br_f (nI_ge (b := 64) hh (by decide)) ⟨vp_in_nI hh (by decide), br_f (by rw [nI_clamp (by omega)]; exact nI_nle lh (by omega)) hp⟩)
theorem cf_xgood_f {post : Int32 → Prop} {x : Int32} (h : cf_bad z x) (hp : post 0) : wpX_isGood post (cf_S f0 w Ho z p Pk sp) x := by
  refine br_c (fun _ => hp) (fun n1 => br_c (fun _ => hp) (fun n2 => ?_))
  rcases h with h | h | ⟨j, hj, ej, rfl⟩
  · exact absurd h n1
  · exact absurd h n2
  · refine ⟨vp_in_nI hj (by decide), br_t ?_ hp⟩
    rw [nI_clamp (by omega)]
    show nI (z j) ≤ 0
    rw [ej]
    decide
theorem cf_xword_t {post : Int32 → Prop} {h j : Nat} (hh : h < 64) (hz : ∀ j, z j ≤ 16) (hj : j < z h) (hp : post 1) : wpX_isWordOf post (cf_S f0 w Ho z p Pk sp) (nI h) (nI j) := by
  have l16 := hz h
  exact br_f (nI_pos (by omega)) ⟨vp_in_nI hh (by decide), br_f (by rw [nI_clamp (by omega)]; exact nI_ge hj (by omega)) hp⟩
theorem cf_xword_f {post : Int32 → Prop} {h : Nat} {x : Int32} (hh : h < 64) (hx : x < 0 ∨ nI (z h) ≤ x) (hp : post 0) : wpX_isWordOf post (cf_S f0 w Ho z p Pk sp) (nI h) x := by
  refine br_c (fun _ => hp) (fun n1 => ⟨vp_in_nI hh (by decide), br_t ?_ hp⟩)
  rw [nI_clamp (by omega)]
  exact hx.resolve_left n1
theorem cf_xlf_t {post : Int32 → Prop} {h : Nat} (hh : h < 64) (h0 : z h = 0) (hz : ∀ j, z j ≤ 16) (hl : ∀ j, j < h → z j ≠ 0) (hp : post (nI h)) : wpX_leastFreeHandle post (cf_S f0 w Ho z p Pk sp) := by
  have key : ∀ d i : Nat, i + d = h → wX_leastFreeHandle_2 post f0 w Ho (fun j => nI (z j)) (fun j => nI (p j)) Pk sp (d + 1) (nI i) := by
    intro d
    induction d with
    | zero =>
      intro i hi
      have e : i = h := by omega
      rw [e]
      refine br_f (nI_ge (b := 64) hh (by decide)) ⟨vp_in_nI hh (by decide), br_t ?_ hp⟩
      rw [nI_clamp (by omega)]
      show nI (z h) = 0
      rw [h0]
      rfl
    | succ d ih =>
      intro i hi
      have l16 := hz i
      have n0 := hl i (by omega)
      refine br_f (nI_ge (b := 64) (by omega) (by decide)) ⟨vp_in_nI (by omega) (by decide), br_f ?_ (nm_r (nI_1 i) (ih (i + 1) (by omega)))⟩
      rw [nI_clamp (by omega)]
      exact nI_ne0 (n := z i) (by omega) (by omega)
  exact ⟨h + 1, key h 0 (by omega)⟩
theorem cf_xlf_f {post : Int32 → Prop} (hz : ∀ j, z j ≤ 16) (hl : ∀ j, j < 64 → z j ≠ 0) (hp : post (-1)) : wpX_leastFreeHandle post (cf_S f0 w Ho z p Pk sp) := by
  have key : ∀ d i : Nat, i + d = 64 → wX_leastFreeHandle_2 post f0 w Ho (fun j => nI (z j)) (fun j => nI (p j)) Pk sp (d + 1) (nI i) := by
    intro d
    induction d with
    | zero =>
      intro i hi
      exact br_t (nI_le (a := 64) (by omega) (by omega)) hp
    | succ d ih =>
      intro i hi
      have l16 := hz i
      have n0 := hl i (by omega)
      refine br_f (nI_ge (b := 64) (by omega) (by decide)) ⟨vp_in_nI (by omega) (by decide), br_f ?_ (nm_r (nI_1 i) (ih (i + 1) (by omega)))⟩
      rw [nI_clamp (by omega)]
      exact nI_ne0 (n := z i) (by omega) (by omega)
  exact ⟨65, key 64 0 rfl⟩
theorem cf_xok_t {post : Int32 → Prop} {h k : Nat} (hh : h < 64) (hz : ∀ j, z j ≤ 16) (e : 0 < z h ∧ cf_kd (z h) = k) (hp : post 1) : wpX_isOfKind post (cf_S f0 w Ho z p Pk sp) (nI h) (nI k) := by
  have l16 := hz h
  refine ⟨vp_in_nI hh (by decide), nm_r (cf_szI hh) (br_f (nI_nle e.1 (by omega)) (cf_xkind l16 (br_t ?_ hp)))⟩
  rw [e.2]
theorem cf_xok_f {post : Int32 → Prop} {h k : Nat} (hh : h < 64) (hz : ∀ j, z j ≤ 16) (hk : k < 4) (e : ¬ (0 < z h ∧ cf_kd (z h) = k)) (hp : post 0) : wpX_isOfKind post (cf_S f0 w Ho z p Pk sp) (nI h) (nI k) := by
  have l16 := hz h
  have k4 := cf_kd4 (z h)
  refine ⟨vp_in_nI hh (by decide), nm_r (cf_szI hh) (br_c (fun _ => hp) (fun n => cf_xkind l16 (br_f ?_ hp)))⟩
  intro ek
  refine e ⟨?_, cf_inj (by omega) (by omega) ek⟩
  by_cases e0 : z h = 0
  · rw [e0] at n
    exact absurd (by decide) n
  · omega
theorem cf_xobj {post : Int32 → Prop} {k : Nat} (hk : k < 4) (hz : ∀ j, z j ≤ 16) (hp : post (nI (cf_nk z k))) : wpX_objectsOf post (cf_S f0 w Ho z p Pk sp) (nI k) := by
  have key : ∀ d i : Nat, i + d = 64 → wX_objectsOf_4 post (nI k) f0 w Ho (fun j => nI (z j)) (fun j => nI (p j)) Pk sp (d + 1) (nI (cf_cn (fun h => 0 < z h ∧ cf_kd (z h) = k) i)) (nI i) := by
    intro d
    induction d with
    | zero =>
      intro i hi
      have e : i = 64 := by omega
      subst e
      exact br_t (nI_le (a := 64) (by omega) (by omega)) hp
    | succ d ih =>
      intro i hi
      have t := ih (i + 1) (by omega)
      rw [cf_cn_s] at t
      refine br_f (nI_ge (b := 64) (by omega) (by decide)) ?_
      by_cases e : 0 < z i ∧ cf_kd (z i) = k
      · rw [cf_bt e] at t
        exact cf_xok_t (by omega) hz e (br_f (by decide) (nm_r (nI_1 _) (nm_r (nI_1 i) t)))
      · rw [cf_bf e] at t
        exact cf_xok_f (by omega) hz hk e (br_t rfl (nm_r (nI_1 i) t))
  exact ⟨65, key 64 0 rfl⟩
def cf_am (x : Int32) (c m : Nat) : Nat := if x = nI c then m else 0
theorem cf_am_k {k c m : Nat} (hk : k < 4) (hc : c < 4) : cf_am (nI k) c m = if c = k then m else 0 := by
  unfold cf_am
  by_cases e : c = k
  · rw [e, if_pos rfl, if_pos rfl]
  · rw [if_neg e, if_neg (fun q => e (cf_inj (by omega) (by omega) q).symm)]
theorem cf_am_m {c m : Nat} (hc : c < 4) : cf_am (-1) c m = 0 := if_neg (fun q => cf_nm1 (by omega) q.symm)
theorem cf_nd_sm (f : Nat → Nat) : cf_sm (fun c => cf_pg c (f c)) 4 = cf_nd f := by
  show 0 + cf_pg 0 (f 0) + cf_pg 1 (f 1) + cf_pg 2 (f 2) + cf_pg 3 (f 3) = cf_nd f
  rw [Nat.zero_add]
  rfl
theorem cf_xneed {post : Int32 → Prop} {x1 x2 : Int32} (hz : ∀ j, z j ≤ 16) (h2 : ∀ c, c < 4 → x2 = nI c → 1 ≤ cf_nk z c)
    (hp : post (nI (cf_nd (fun c => cf_nk z c + cf_am x1 c 1 - cf_am x2 c 1)))) : wpX_neededAfter post (cf_S f0 w Ho z p Pk sp) x1 x2 := by
  rw [← cf_nd_sm] at hp
  have key : ∀ d i : Nat, i + d = 4 → wX_neededAfter_5 post x1 x2 f0 w Ho (fun j => nI (z j)) (fun j => nI (p j)) Pk sp (d + 1) (nI (cf_sm (fun c => cf_pg c (cf_nk z c + cf_am x1 c 1 - cf_am x2 c 1)) i)) (nI i) := by
    intro d
    induction d with
    | zero =>
      intro i hi
      have e : i = 4 := by omega
      subst e
      exact br_t (nI_le (a := 4) (by omega) (by omega)) hp
    | succ d ih =>
      intro i hi
      have t := ih (i + 1) (by omega)
      rw [cf_sm_s] at t
      have n64 := cf_nk64 z i
      refine br_f (nI_ge (b := 4) (by omega) (by decide)) (cf_xobj (by omega) hz ?_)
      have s37 : ∀ m, m ≤ 200 → m = cf_nk z i + cf_am x1 i 1 - cf_am x2 i 1 → wX_neededAfter_37 post (wX_neededAfter_5 post x1 x2 f0 w Ho (fun j => nI (z j)) (fun j => nI (p j)) Pk sp (d + 1)) x1 x2 (nI (cf_sm (fun c => cf_pg c (cf_nk z c + cf_am x1 c 1 - cf_am x2 c 1)) i)) (nI i) (nI m) f0 w Ho (fun j => nI (z j)) (fun j => nI (p j)) Pk sp := by
        intro m hm em
        unfold wX_neededAfter_37
        refine cf_xpg (by omega) hm (nm_r (nI_add _ _) (nm_r (nI_1 i) ?_))
        rw [em]
        exact t
      have s28 : ∀ m, m ≤ 199 → m = cf_nk z i + cf_am x1 i 1 → wX_neededAfter_28 post (wX_neededAfter_5 post x1 x2 f0 w Ho (fun j => nI (z j)) (fun j => nI (p j)) Pk sp (d + 1)) x1 x2 (nI (cf_sm (fun c => cf_pg c (cf_nk z c + cf_am x1 c 1 - cf_am x2 c 1)) i)) (nI i) (nI m) f0 w Ho (fun j => nI (z j)) (fun j => nI (p j)) Pk sp := by
        intro m hm em
        refine br_c (fun a => ?_) (fun a => ?_)
        · have g := h2 i (by omega) a.symm
          obtain ⟨m', rfl⟩ : ∃ m', m = m' + 1 := ⟨m - 1, by omega⟩
          refine nm_r (pk_m1 m') (s37 m' (by omega) ?_)
          have e2 : cf_am x2 i 1 = 1 := if_pos a.symm
          omega
        · have e2 : cf_am x2 i 1 = 0 := if_neg (fun b => a b.symm)
          exact s37 m (by omega) (by omega)
      refine br_c (fun a => ?_) (fun a => ?_)
      · have e1 : cf_am x1 i 1 = 1 := if_pos a.symm
        exact nm_r (nI_1 _) (s28 _ (by omega) (by omega))
      · have e1 : cf_am x1 i 1 = 0 := if_neg (fun b => a b.symm)
        exact s28 _ (by omega) (by omega)
  exact ⟨5, key 4 0 rfl⟩
end
