/-! counting, classes, the pages: no printed predicate here -/
noncomputable def cf_b (p : Prop) : Nat := @ite Nat p (Classical.propDecidable p) 1 0
theorem cf_bt {p : Prop} (h : p) : cf_b p = 1 := by unfold cf_b; rw [if_pos h]
theorem cf_bf {p : Prop} (h : ¬ p) : cf_b p = 0 := by unfold cf_b; rw [if_neg h]
theorem cf_bc {p q : Prop} (h : p ↔ q) : cf_b p = cf_b q := by rw [propext h]
noncomputable def cf_cn (p : Nat → Prop) : Nat → Nat
  | 0 => 0
  | n + 1 => cf_cn p n + cf_b (p n)
theorem cf_cn_s (p : Nat → Prop) (n : Nat) : cf_cn p (n + 1) = cf_cn p n + cf_b (p n) := rfl
theorem cf_cn_congr {p q : Nat → Prop} {n : Nat} (h : ∀ i, i < n → (p i ↔ q i)) : cf_cn p n = cf_cn q n := by
  induction n with
  | zero => rfl
  | succ n ih =>
    rw [cf_cn_s, cf_cn_s, ih (fun i hi => h i (by omega)), cf_bc (h n (by omega))]
theorem cf_cn_pt {p q : Nat → Prop} {k n : Nat} (hk : k < n) (h : ∀ i, i < n → i ≠ k → (q i ↔ p i)) :
    cf_cn q n + cf_b (p k) = cf_cn p n + cf_b (q k) := by
  induction n with
  | zero => omega
  | succ n ih =>
    rw [cf_cn_s, cf_cn_s]
    by_cases e : k = n
    · rw [e, cf_cn_congr (p := q) (q := p) (n := n) (fun i hi => h i (by omega) (by omega))]
      omega
    · have := ih (by omega) (fun i hi hn => h i (by omega) hn)
      rw [cf_bc (h n (by omega) (fun z => e z.symm))]
      omega
theorem cf_cn_le (p : Nat → Prop) (n : Nat) : cf_cn p n ≤ n := by
  induction n with
  | zero => exact Nat.le_refl 0
  | succ n ih =>
    rw [cf_cn_s]
    by_cases h : p n
    · rw [cf_bt h]; omega
    · rw [cf_bf h]; omega
theorem cf_cn_add (p : Nat → Prop) (a b : Nat) : cf_cn p (a + b) = cf_cn p a + cf_cn (fun i => p (a + i)) b := by
  induction b with
  | zero => rfl
  | succ b ih =>
    show cf_cn p (a + b) + cf_b (p (a + b)) = cf_cn p a + (cf_cn (fun i => p (a + i)) b + cf_b (p (a + b)))
    rw [ih, Nat.add_assoc]
theorem cf_cn_pos {p : Nat → Prop} {n : Nat} (h : 0 < cf_cn p n) : ∃ i, i < n ∧ p i := by
  induction n with
  | zero => exact absurd h (Nat.lt_irrefl 0)
  | succ n ih =>
    by_cases hp : p n
    · exact ⟨n, by omega, hp⟩
    · rw [cf_cn_s, cf_bf hp] at h
      obtain ⟨i, hi, e⟩ := ih h
      exact ⟨i, by omega, e⟩
theorem cf_cn_in {p : Nat → Prop} {n i : Nat} (hi : i < n) (h : p i) : 0 < cf_cn p n := by
  induction n with
  | zero => omega
  | succ n ih =>
    rw [cf_cn_s]
    by_cases e : i = n
    · rw [← e, cf_bt h]; omega
    · have := ih (by omega)
      omega
theorem cf_cn_none {p : Nat → Prop} {n : Nat} (h : ∀ i, i < n → ¬ p i) : cf_cn p n = 0 := by
  induction n with
  | zero => rfl
  | succ n ih => rw [cf_cn_s, ih (fun i hi => h i (by omega)), cf_bf (h n (by omega))]
theorem cf_cn_all {p : Nat → Prop} {n : Nat} (h : ∀ i, i < n → p i) : cf_cn p n = n := by
  induction n with
  | zero => rfl
  | succ n ih => rw [cf_cn_s, ih (fun i hi => h i (by omega)), cf_bt (h n (by omega))]
theorem cf_cn_inj (p : Nat → Prop) (f : Nat → Nat) (m n : Nat) : ∀ q : Nat → Prop,
    (∀ i, i < n → p i → f i < m ∧ q (f i)) →
    (∀ i j, i < n → j < n → p i → p j → f i = f j → i = j) → cf_cn p n ≤ cf_cn q m := by
  induction n with
  | zero => intro q _ _; exact Nat.zero_le _
  | succ n ih =>
    intro q h1 h2
    rw [cf_cn_s]
    by_cases hp : p n
    · rw [cf_bt hp]
      obtain ⟨hm, hq⟩ := h1 n (Nat.lt_succ_self n) hp
      have e := cf_cn_pt (p := q) (q := fun j => j ≠ f n ∧ q j) (k := f n) (n := m) hm
        (fun i _ hn => ⟨fun z => z.2, fun z => ⟨hn, z⟩⟩)
      have i1 : ∀ i, i < n → p i → f i < m ∧ (fun j => j ≠ f n ∧ q j) (f i) := by
        intro i hi hpi
        obtain ⟨a, b⟩ := h1 i (by omega) hpi
        refine ⟨a, ?_, b⟩
        intro z
        have := h2 i n (by omega) (by omega) hpi hp z
        omega
      have h := ih (fun j => j ≠ f n ∧ q j) i1 (fun i j hi hj => h2 i j (by omega) (by omega))
      rw [cf_bt hq, cf_bf (p := (fun j => j ≠ f n ∧ q j) (f n)) (fun z => z.1 rfl)] at e
      omega
    · rw [cf_bf hp]
      exact ih q (fun i hi => h1 i (by omega)) (fun i j hi hj => h2 i j (by omega) (by omega))
def cf_sm (f : Nat → Nat) : Nat → Nat
  | 0 => 0
  | n + 1 => cf_sm f n + f n
theorem cf_sm_s (f : Nat → Nat) (n : Nat) : cf_sm f (n + 1) = cf_sm f n + f n := rfl
theorem cf_sm_congr {f f' : Nat → Nat} {n : Nat} (h : ∀ i, i < n → f i = f' i) : cf_sm f n = cf_sm f' n := by
  induction n with
  | zero => rfl
  | succ n ih => rw [cf_sm_s, cf_sm_s, ih (fun i hi => h i (by omega)), h n (by omega)]
theorem cf_blk (p : Nat → Prop) (n : Nat) : cf_cn p (16 * n) = cf_sm (fun g => cf_cn (fun i => p (16 * g + i)) 16) n := by
  induction n with
  | zero => rfl
  | succ n ih =>
    rw [show 16 * (n + 1) = 16 * n + 16 from by omega, cf_cn_add, ih]
    rfl
/-! classes -/
def cf_kd (s : Nat) : Nat := if s ≤ 2 then 0 else if s ≤ 4 then 1 else if s ≤ 8 then 2 else 3
def cf_wd (k : Nat) : Nat := if k = 0 then 2 else if k = 1 then 4 else if k = 2 then 8 else 16
def cf_pr (k : Nat) : Nat := if k = 0 then 8 else if k = 1 then 4 else if k = 2 then 2 else 1
def cf_pg (k n : Nat) : Nat := (n + (cf_pr k - 1)) / cf_pr k
def cf_nd (f : Nat → Nat) : Nat := cf_pg 0 (f 0) + cf_pg 1 (f 1) + cf_pg 2 (f 2) + cf_pg 3 (f 3)
noncomputable def cf_nk (z : Nat → Nat) (c : Nat) : Nat := cf_cn (fun h => 0 < z h ∧ cf_kd (z h) = c) 64
theorem cf_4 {k : Nat} (h : k < 4) : k = 0 ∨ k = 1 ∨ k = 2 ∨ k = 3 := by omega
theorem cf_kd4 (s : Nat) : cf_kd s < 4 := by
  unfold cf_kd
  split
  · decide
  · split
    · decide
    · split <;> decide
theorem cf_fit : ∀ s, s < 17 → s ≤ cf_wd (cf_kd s) := by decide
theorem cf_wd16 {k : Nat} (h : k < 4) : 2 ≤ cf_wd k ∧ cf_wd k ≤ 16 := by
  rcases cf_4 h with rfl | rfl | rfl | rfl <;> decide
theorem cf_pr8 {k : Nat} (h : k < 4) : 1 ≤ cf_pr k ∧ cf_pr k ≤ 8 := by
  rcases cf_4 h with rfl | rfl | rfl | rfl <;> decide
theorem cf_pg0 (n : Nat) : cf_pg 0 n = (n + 7) / 8 := rfl
theorem cf_pg1 (n : Nat) : cf_pg 1 n = (n + 3) / 4 := rfl
theorem cf_pg2 (n : Nat) : cf_pg 2 n = (n + 1) / 2 := rfl
theorem cf_pg3 (n : Nat) : cf_pg 3 n = n := Nat.div_one n
theorem cf_pg_mono {k a b : Nat} (hk : k < 4) (h : a ≤ b) : cf_pg k a ≤ cf_pg k b := by
  rcases cf_4 hk with rfl | rfl | rfl | rfl
  · rw [cf_pg0, cf_pg0]; omega
  · rw [cf_pg1, cf_pg1]; omega
  · rw [cf_pg2, cf_pg2]; omega
  · rw [cf_pg3, cf_pg3]; omega
theorem cf_pg_lo {k m n : Nat} (hk : k < 4) (h : m * cf_pr k + 1 ≤ n + cf_pr k) : m ≤ cf_pg k n := by
  rcases cf_4 hk with rfl | rfl | rfl | rfl
  · rw [cf_pg0]; rw [show cf_pr 0 = 8 from rfl] at h; omega
  · rw [cf_pg1]; rw [show cf_pr 1 = 4 from rfl] at h; omega
  · rw [cf_pg2]; rw [show cf_pr 2 = 2 from rfl] at h; omega
  · rw [cf_pg3]; rw [show cf_pr 3 = 1 from rfl] at h; omega
theorem cf_pg_hi {k m n : Nat} (hk : k < 4) (h : m * cf_pr k ≤ n) : m + 1 ≤ cf_pg k (n + 1) := by
  rcases cf_4 hk with rfl | rfl | rfl | rfl
  · rw [cf_pg0]; rw [show cf_pr 0 = 8 from rfl] at h; omega
  · rw [cf_pg1]; rw [show cf_pr 1 = 4 from rfl] at h; omega
  · rw [cf_pg2]; rw [show cf_pr 2 = 2 from rfl] at h; omega
  · rw [cf_pg3]; rw [show cf_pr 3 = 1 from rfl] at h; omega
theorem cf_pg_iff {k m n : Nat} (hk : k < 4) : cf_pg k n ≤ m ↔ n ≤ m * cf_pr k := by
  rcases cf_4 hk with rfl | rfl | rfl | rfl
  · rw [cf_pg0, show cf_pr 0 = 8 from rfl]; omega
  · rw [cf_pg1, show cf_pr 1 = 4 from rfl]; omega
  · rw [cf_pg2, show cf_pr 2 = 2 from rfl]; omega
  · rw [cf_pg3, show cf_pr 3 = 1 from rfl]; omega
theorem cf_nd_mono {f f' : Nat → Nat} (h : ∀ c, c < 4 → f c ≤ f' c) : cf_nd f ≤ cf_nd f' := by
  unfold cf_nd
  have a := cf_pg_mono (k := 0) (by decide) (h 0 (by decide))
  have b := cf_pg_mono (k := 1) (by decide) (h 1 (by decide))
  have c := cf_pg_mono (k := 2) (by decide) (h 2 (by decide))
  have d := cf_pg_mono (k := 3) (by decide) (h 3 (by decide))
  omega
theorem cf_nd_congr {f f' : Nat → Nat} (h : ∀ c, c < 4 → f c = f' c) : cf_nd f = cf_nd f' := by
  unfold cf_nd
  rw [h 0 (by decide), h 1 (by decide), h 2 (by decide), h 3 (by decide)]
theorem cf_nk64 (z : Nat → Nat) (c : Nat) : cf_nk z c ≤ 64 := cf_cn_le _ _
/-! functions with one value changed -/
def cf_u (f : Nat → Nat) (k x : Nat) : Nat → Nat := fun j => if j = k then x else f j
theorem cf_us {f : Nat → Nat} {k x : Nat} : cf_u f k x k = x := if_pos rfl
theorem cf_un {f : Nat → Nat} {k x j : Nat} (h : j ≠ k) : cf_u f k x j = f j := if_neg h
theorem cf_uI (f : Nat → Nat) (k x : Nat) : upd (fun j => nI (f j)) k (nI x) = fun j => nI (cf_u f k x j) := by
  funext j
  by_cases h : j = k
  · rw [h, cf_us]; exact if_pos rfl
  · rw [cf_un h]; exact if_neg h
theorem cf_vs {f : Nat → Int32} {k : Nat} {x : Int32} : upd f k x k = x := if_pos rfl
theorem cf_vn {f : Nat → Int32} {k j : Nat} {x : Int32} (h : j ≠ k) : upd f k x j = f j := if_neg h
theorem cf_uu (f : Nat → Nat) (k x y : Nat) : cf_u (cf_u f k x) k y = cf_u f k y := by
  funext j
  by_cases h : j = k
  · rw [h, cf_us, cf_us]
  · rw [cf_un h, cf_un h, cf_un h]
theorem cf_same {f : Nat → Int32} {k : Nat} {x : Int32} (h : f k = x) : upd f k x = f := by
  funext j
  by_cases e : j = k
  · rw [e, cf_vs, h]
  · rw [cf_vn e]
theorem cf_nm1 {n : Nat} (h : n < 2 ^ 31) : nI n ≠ -1 := by
  intro e
  have := congrArg Int32.toInt e
  rw [nI_toInt h, show (-1 : Int32).toInt = -1 from by decide] at this
  omega
theorem cf_inj {a b : Nat} (ha : a < 2 ^ 31) (hb : b < 2 ^ 31) (h : nI a = nI b) : a = b := (nI_eq ha hb).mp h
/-- how many objects of the class there are once one value has changed -/
theorem cf_nk_u {z : Nat → Nat} {h x c : Nat} (hh : h < 64) :
    cf_nk (cf_u z h x) c + cf_b (0 < z h ∧ cf_kd (z h) = c) = cf_nk z c + cf_b (0 < x ∧ cf_kd x = c) := by
  have e : cf_cn (fun i => 0 < cf_u z h x i ∧ cf_kd (cf_u z h x i) = c) 64 + cf_b (0 < z h ∧ cf_kd (z h) = c)
      = cf_cn (fun i => 0 < z i ∧ cf_kd (z i) = c) 64 + cf_b (0 < cf_u z h x h ∧ cf_kd (cf_u z h x h) = c) :=
    cf_cn_pt (p := fun i => 0 < z i ∧ cf_kd (z i) = c) (q := fun i => 0 < cf_u z h x i ∧ cf_kd (cf_u z h x i) = c) (k := h) (n := 64) hh
      (fun i _ hn => by
        show (0 < cf_u z h x i ∧ cf_kd (cf_u z h x i) = c) ↔ (0 < z i ∧ cf_kd (z i) = c)
        rw [cf_un hn])
  rw [show cf_u z h x h = x from cf_us] at e
  exact e
