section
/-! rows pasted from kit/rows -/
theorem pk_sub {a b : Nat} (h : b ≤ a) : nI a - nI b = nI (a - b) := by
  obtain ⟨c, rfl⟩ : ∃ c, a = c + b := ⟨a - b, by omega⟩
  rw [← nI_add, Int32.add_sub_cancel, Nat.add_sub_cancel]
theorem pk_m1 (n : Nat) : nI (n + 1) + (-1) = nI n := by
  rw [← nI_1, Int32.add_assoc, show (1 : Int32) + (-1) = 0 from rfl, Int32.add_zero]
theorem pk_mul (a b : Nat) : nI a * nI b = nI (a * b) := (Int32.ofNat_mul a b).symm
theorem pk_div {a d : Nat} (ha : a < 2 ^ 31) (h0 : 0 < d) (hd : d < 2 ^ 31) : nI a / nI d = nI (a / d) := by
  apply Int32.toInt_inj.mp
  rw [lg_idiv_nonneg (by rw [nI_toInt ha]; omega) (by rw [nI_toInt hd]; omega), nI_toInt ha, nI_toInt hd, nI_toInt (Nat.lt_of_le_of_lt (Nat.div_le_self a d) ha)]
  first | rfl | exact (Int.natCast_ediv _ _).symm
theorem pk_ix (x : Int32) {n : Nat} (hn : n < 2 ^ 31) : x < 0 ∨ nI n ≤ x ∨ ∃ j : Nat, j < n ∧ x = nI j := by
  by_cases h : x < 0
  · exact Or.inl h
  · obtain ⟨j, hj, rfl⟩ := nI_of h
    by_cases h2 : j < n
    · exact Or.inr (Or.inr ⟨j, h2, rfl⟩)
    · exact Or.inr (Or.inl (nI_le (by omega) hj))
theorem pk_le {x y : Int32} {A B : Prop} (a b : Nat) (f : a ≤ b → A) (g : b < a → B) (hx : x = nI a := by rfl) (hy : y = nI b := by rfl) (ha : a < 2 ^ 31 := by omega) (hb : b < 2 ^ 31 := by omega) : (x ≤ y → A) ∧ (¬ x ≤ y → B) := by
  subst hx hy
  rw [nI_leI ha hb]
  exact ⟨f, fun z => g (by omega)⟩
theorem pk_lt {x y : Int32} {A B : Prop} (a b : Nat) (f : a < b → A) (g : b ≤ a → B) (hx : x = nI a := by rfl) (hy : y = nI b := by rfl) (ha : a < 2 ^ 31 := by omega) (hb : b < 2 ^ 31 := by omega) : (x < y → A) ∧ (¬ x < y → B) := by
  subst hx hy
  rw [nI_ltI ha hb]
  exact ⟨f, fun z => g (by omega)⟩
theorem pk_eq {x y : Int32} {A B : Prop} (a b : Nat) (f : a = b → A) (g : a ≠ b → B) (hx : x = nI a := by rfl) (hy : y = nI b := by rfl) (ha : a < 2 ^ 31 := by omega) (hb : b < 2 ^ 31 := by omega) : (x = y → A) ∧ (¬ x = y → B) := by
  subst hx hy
  rw [nI_eq ha hb]
  exact ⟨f, g⟩
theorem pk_in {x : Int32} (n N : Nat) (h : n < N) (hx : x = nI n := by rfl) (hN : N < 2 ^ 31 := by omega) : vp_in x N := by
  subst hx
  exact vp_in_nI h hN
theorem pk_cl {x : Int32} (n : Nat) (hx : x = nI n := by rfl) (h : n < 2 ^ 31 := by omega) : x.toNatClampNeg = n := by
  subst hx
  exact nI_clamp h
theorem pk_least (P : Nat → Prop) (h : ∃ k, P k) : ∃ k, P k ∧ ∀ j, j < k → ¬ P j := by
  obtain ⟨k, hk⟩ := h
  induction k using Nat.strongRecOn with
  | ind k ih =>
    by_cases e : ∃ j, j < k ∧ P j
    · obtain ⟨j, hj, pj⟩ := e
      exact ih j hj pj
    · exact ⟨k, hk, fun j hj pj => e ⟨j, hj, pj⟩⟩
end
section
/-! counting, classes, the pages: no printed predicate here -/
noncomputable def cf_b (p : Prop) : Nat := @ite Nat p (Classical.propDecidable p) 1 0
theorem cf_bt {p : Prop} (h : p) : cf_b p = 1 := by unfold cf_b; rw [if_pos h]
theorem cf_bf {p : Prop} (h : ¬ p) : cf_b p = 0 := by unfold cf_b; rw [if_neg h]
theorem cf_bc {p q : Prop} (h : p ↔ q) : cf_b p = cf_b q := by rw [propext h]
noncomputable def cf_cn (p : Nat → Prop) : Nat → Nat
  | 0 => 0
  | n + 1 => cf_cn p n + cf_b (p n)
theorem cf_cn_s (p : Nat → Prop) (n : Nat) : cf_cn p (n + 1) = cf_cn p n + cf_b (p n) := rfl
theorem cf_cn_congr {p q : Nat → Prop} {n : Nat} (h : ∀ i, i < n → (p i ↔ q i)) : cf_cn p n = cf_cn q n := by
  induction n with
  | zero => rfl
  | succ n ih =>
    rw [cf_cn_s, cf_cn_s, ih (fun i hi => h i (by omega)), cf_bc (h n (by omega))]
theorem cf_cn_pt {p q : Nat → Prop} {k n : Nat} (hk : k < n) (h : ∀ i, i < n → i ≠ k → (q i ↔ p i)) :
    cf_cn q n + cf_b (p k) = cf_cn p n + cf_b (q k) := by
  induction n with
  | zero => omega
  | succ n ih =>
    rw [cf_cn_s, cf_cn_s]
    by_cases e : k = n
    · rw [e, cf_cn_congr (p := q) (q := p) (n := n) (fun i hi => h i (by omega) (by omega))]
      omega
    · have := ih (by omega) (fun i hi hn => h i (by omega) hn)
      rw [cf_bc (h n (by omega) (fun z => e z.symm))]
      omega
theorem cf_cn_le (p : Nat → Prop) (n : Nat) : cf_cn p n ≤ n := by
  induction n with
  | zero => exact Nat.le_refl 0
  | succ n ih =>
    rw [cf_cn_s]
    by_cases h : p n
    · rw [cf_bt h]; omega
    · rw [cf_bf h]; omega
theorem cf_cn_add (p : Nat → Prop) (a b : Nat) : cf_cn p (a + b) = cf_cn p a + cf_cn (fun i => p (a + i)) b := by
  induction b with
  | zero => rfl
  | succ b ih =>
    show cf_cn p (a + b) + cf_b (p (a + b)) = cf_cn p a + (cf_cn (fun i => p (a + i)) b + cf_b (p (a + b)))
    rw [ih, Nat.add_assoc]
theorem cf_cn_pos {p : Nat → Prop} {n : Nat} (h : 0 < cf_cn p n) : ∃ i, i < n ∧ p i := by
  induction n with
  | zero => exact absurd h (Nat.lt_irrefl 0)
  | succ n ih =>
    by_cases hp : p n
    · exact ⟨n, by omega, hp⟩
    · rw [cf_cn_s, cf_bf hp] at h
      obtain ⟨i, hi, e⟩ := ih h
      exact ⟨i, by omega, e⟩
theorem cf_cn_in {p : Nat → Prop} {n i : Nat} (hi : i < n) (h : p i) : 0 < cf_cn p n := by
  induction n with
  | zero => omega
  | succ n ih =>
    rw [cf_cn_s]
    by_cases e : i = n
    · rw [← e, cf_bt h]; omega
    · have := ih (by omega)
      omega
theorem cf_cn_none {p : Nat → Prop} {n : Nat} (h : ∀ i, i < n → ¬ p i) : cf_cn p n = 0 := by
  induction n with
  | zero => rfl
  | succ n ih => rw [cf_cn_s, ih (fun i hi => h i (by omega)), cf_bf (h n (by omega))]
theorem cf_cn_all {p : Nat → Prop} {n : Nat} (h : ∀ i, i < n → p i) : cf_cn p n = n := by
  induction n with
  | zero => rfl
  | succ n ih => rw [cf_cn_s, ih (fun i hi => h i (by omega)), cf_bt (h n (by omega))]
theorem cf_cn_inj (p : Nat → Prop) (f : Nat → Nat) (m n : Nat) : ∀ q : Nat → Prop,
    (∀ i, i < n → p i → f i < m ∧ q (f i)) →
    (∀ i j, i < n → j < n → p i → p j → f i = f j → i = j) → cf_cn p n ≤ cf_cn q m := by
  induction n with
  | zero => intro q _ _; exact Nat.zero_le _
  | succ n ih =>
    intro q h1 h2
    rw [cf_cn_s]
    by_cases hp : p n
    · rw [cf_bt hp]
      obtain ⟨hm, hq⟩ := h1 n (Nat.lt_succ_self n) hp
      have e := cf_cn_pt (p := q) (q := fun j => j ≠ f n ∧ q j) (k := f n) (n := m) hm
        (fun i _ hn => ⟨fun z => z.2, fun z => ⟨hn, z⟩⟩)
      have i1 : ∀ i, i < n → p i → f i < m ∧ (fun j => j ≠ f n ∧ q j) (f i) := by
        intro i hi hpi
        obtain ⟨a, b⟩ := h1 i (by omega) hpi
        refine ⟨a, ?_, b⟩
        intro z
        have := h2 i n (by omega) (by omega) hpi hp z
        omega
      have h := ih (fun j => j ≠ f n ∧ q j) i1 (fun i j hi hj => h2 i j (by omega) (by omega))
      rw [cf_bt hq, cf_bf (p := (fun j => j ≠ f n ∧ q j) (f n)) (fun z => z.1 rfl)] at e
      omega
    · rw [cf_bf hp]
      exact ih q (fun i hi => h1 i (by omega)) (fun i j hi hj => h2 i j (by omega) (by omega))
def cf_sm (f : Nat → Nat) : Nat → Nat
  | 0 => 0
  | n + 1 => cf_sm f n + f n
theorem cf_sm_s (f : Nat → Nat) (n : Nat) : cf_sm f (n + 1) = cf_sm f n + f n := rfl
theorem cf_sm_congr {f f' : Nat → Nat} {n : Nat} (h : ∀ i, i < n → f i = f' i) : cf_sm f n = cf_sm f' n := by
  induction n with
  | zero => rfl
  | succ n ih => rw [cf_sm_s, cf_sm_s, ih (fun i hi => h i (by omega)), h n (by omega)]
theorem cf_blk (p : Nat → Prop) (n : Nat) : cf_cn p (16 * n) = cf_sm (fun g => cf_cn (fun i => p (16 * g + i)) 16) n := by
  induction n with
  | zero => rfl
  | succ n ih =>
    rw [show 16 * (n + 1) = 16 * n + 16 from by omega, cf_cn_add, ih]
    rfl
/-! classes -/
def cf_kd (s : Nat) : Nat := if s ≤ 2 then 0 else if s ≤ 4 then 1 else if s ≤ 8 then 2 else 3
def cf_wd (k : Nat) : Nat := if k = 0 then 2 else if k = 1 then 4 else if k = 2 then 8 else 16
def cf_pr (k : Nat) : Nat := if k = 0 then 8 else if k = 1 then 4 else if k = 2 then 2 else 1
def cf_pg (k n : Nat) : Nat := (n + (cf_pr k - 1)) / cf_pr k
def cf_nd (f : Nat → Nat) : Nat := cf_pg 0 (f 0) + cf_pg 1 (f 1) + cf_pg 2 (f 2) + cf_pg 3 (f 3)
noncomputable def cf_nk (z : Nat → Nat) (c : Nat) : Nat := cf_cn (fun h => 0 < z h ∧ cf_kd (z h) = c) 64
theorem cf_4 {k : Nat} (h : k < 4) : k = 0 ∨ k = 1 ∨ k = 2 ∨ k = 3 := by omega
theorem cf_kd4 (s : Nat) : cf_kd s < 4 := by
  unfold cf_kd
  split
  · decide
  · split
    · decide
    · split <;> decide
theorem cf_fit : ∀ s, s < 17 → s ≤ cf_wd (cf_kd s) := by decide
theorem cf_wd16 {k : Nat} (h : k < 4) : 2 ≤ cf_wd k ∧ cf_wd k ≤ 16 := by
  rcases cf_4 h with rfl | rfl | rfl | rfl <;> decide
theorem cf_pr8 {k : Nat} (h : k < 4) : 1 ≤ cf_pr k ∧ cf_pr k ≤ 8 := by
  rcases cf_4 h with rfl | rfl | rfl | rfl <;> decide
theorem cf_pg0 (n : Nat) : cf_pg 0 n = (n + 7) / 8 := rfl
theorem cf_pg1 (n : Nat) : cf_pg 1 n = (n + 3) / 4 := rfl
theorem cf_pg2 (n : Nat) : cf_pg 2 n = (n + 1) / 2 := rfl
theorem cf_pg3 (n : Nat) : cf_pg 3 n = n := Nat.div_one n
theorem cf_pg_mono {k a b : Nat} (hk : k < 4) (h : a ≤ b) : cf_pg k a ≤ cf_pg k b := by
  rcases cf_4 hk with rfl | rfl | rfl | rfl
  · rw [cf_pg0, cf_pg0]; omega
  · rw [cf_pg1, cf_pg1]; omega
  · rw [cf_pg2, cf_pg2]; omega
  · rw [cf_pg3, cf_pg3]; omega
theorem cf_pg_lo {k m n : Nat} (hk : k < 4) (h : m * cf_pr k + 1 ≤ n + cf_pr k) : m ≤ cf_pg k n := by
  rcases cf_4 hk with rfl | rfl | rfl | rfl
  · rw [cf_pg0]; rw [show cf_pr 0 = 8 from rfl] at h; omega
  · rw [cf_pg1]; rw [show cf_pr 1 = 4 from rfl] at h; omega
  · rw [cf_pg2]; rw [show cf_pr 2 = 2 from rfl] at h; omega
  · rw [cf_pg3]; rw [show cf_pr 3 = 1 from rfl] at h; omega
theorem cf_pg_hi {k m n : Nat} (hk : k < 4) (h : m * cf_pr k ≤ n) : m + 1 ≤ cf_pg k (n + 1) := by
  rcases cf_4 hk with rfl | rfl | rfl | rfl
  · rw [cf_pg0]; rw [show cf_pr 0 = 8 from rfl] at h; omega
  · rw [cf_pg1]; rw [show cf_pr 1 = 4 from rfl] at h; omega
  · rw [cf_pg2]; rw [show cf_pr 2 = 2 from rfl] at h; omega
  · rw [cf_pg3]; rw [show cf_pr 3 = 1 from rfl] at h; omega
theorem cf_pg_iff {k m n : Nat} (hk : k < 4) : cf_pg k n ≤ m ↔ n ≤ m * cf_pr k := by
  rcases cf_4 hk with rfl | rfl | rfl | rfl
  · rw [cf_pg0, show cf_pr 0 = 8 from rfl]; omega
  · rw [cf_pg1, show cf_pr 1 = 4 from rfl]; omega
  · rw [cf_pg2, show cf_pr 2 = 2 from rfl]; omega
  · rw [cf_pg3, show cf_pr 3 = 1 from rfl]; omega
theorem cf_nd_mono {f f' : Nat → Nat} (h : ∀ c, c < 4 → f c ≤ f' c) : cf_nd f ≤ cf_nd f' := by
  unfold cf_nd
  have a := cf_pg_mono (k := 0) (by decide) (h 0 (by decide))
  have b := cf_pg_mono (k := 1) (by decide) (h 1 (by decide))
  have c := cf_pg_mono (k := 2) (by decide) (h 2 (by decide))
  have d := cf_pg_mono (k := 3) (by decide) (h 3 (by decide))
  omega
theorem cf_nd_congr {f f' : Nat → Nat} (h : ∀ c, c < 4 → f c = f' c) : cf_nd f = cf_nd f' := by
  unfold cf_nd
  rw [h 0 (by decide), h 1 (by decide), h 2 (by decide), h 3 (by decide)]
theorem cf_nk64 (z : Nat → Nat) (c : Nat) : cf_nk z c ≤ 64 := cf_cn_le _ _
/-! functions with one value changed -/
def cf_u (f : Nat → Nat) (k x : Nat) : Nat → Nat := fun j => if j = k then x else f j
theorem cf_us {f : Nat → Nat} {k x : Nat} : cf_u f k x k = x := if_pos rfl
theorem cf_un {f : Nat → Nat} {k x j : Nat} (h : j ≠ k) : cf_u f k x j = f j := if_neg h
theorem cf_uI (f : Nat → Nat) (k x : Nat) : upd (fun j => nI (f j)) k (nI x) = fun j => nI (cf_u f k x j) := by
  funext j
  by_cases h : j = k
  · rw [h, cf_us]; exact if_pos rfl
  · rw [cf_un h]; exact if_neg h
theorem cf_vs {f : Nat → Int32} {k : Nat} {x : Int32} : upd f k x k = x := if_pos rfl
theorem cf_vn {f : Nat → Int32} {k j : Nat} {x : Int32} (h : j ≠ k) : upd f k x j = f j := if_neg h
theorem cf_uu (f : Nat → Nat) (k x y : Nat) : cf_u (cf_u f k x) k y = cf_u f k y := by
  funext j
  by_cases h : j = k
  · rw [h, cf_us, cf_us]
  · rw [cf_un h, cf_un h, cf_un h]
theorem cf_same {f : Nat → Int32} {k : Nat} {x : Int32} (h : f k = x) : upd f k x = f := by
  funext j
  by_cases e : j = k
  · rw [e, cf_vs, h]
  · rw [cf_vn e]
theorem cf_nm1 {n : Nat} (h : n < 2 ^ 31) : nI n ≠ -1 := by
  intro e
  have := congrArg Int32.toInt e
  rw [nI_toInt h, show (-1 : Int32).toInt = -1 from by decide] at this
  omega
theorem cf_inj {a b : Nat} (ha : a < 2 ^ 31) (hb : b < 2 ^ 31) (h : nI a = nI b) : a = b := (nI_eq ha hb).mp h
/-- how many objects of the class there are once one value has changed -/
theorem cf_nk_u {z : Nat → Nat} {h x c : Nat} (hh : h < 64) :
    cf_nk (cf_u z h x) c + cf_b (0 < z h ∧ cf_kd (z h) = c) = cf_nk z c + cf_b (0 < x ∧ cf_kd x = c) := by
  have e : cf_cn (fun i => 0 < cf_u z h x i ∧ cf_kd (cf_u z h x i) = c) 64 + cf_b (0 < z h ∧ cf_kd (z h) = c)
      = cf_cn (fun i => 0 < z i ∧ cf_kd (z i) = c) 64 + cf_b (0 < cf_u z h x h ∧ cf_kd (cf_u z h x h) = c) :=
    cf_cn_pt (p := fun i => 0 < z i ∧ cf_kd (z i) = c) (q := fun i => 0 < cf_u z h x i ∧ cf_kd (cf_u z h x i) = c) (k := h) (n := 64) hh
      (fun i _ hn => by
        show (0 < cf_u z h x i ∧ cf_kd (cf_u z h x i) = c) ↔ (0 < z i ∧ cf_kd (z i) = c)
        rw [cf_un hn])
  rw [show cf_u z h x h = x from cf_us] at e
  exact e
end
section
/-! the pages: who lies where (cf_AB), how full they are (cf_CD) -/
noncomputable def cf_hl (Ho : Nat → Int32) (g : Nat) : Nat := cf_cn (fun i => Ho (16 * g + i) ≠ -1) 16
def cf_A (P : Nat) (z p : Nat → Nat) (Ho Pk : Nat → Int32) : Prop :=
  ∀ h, h < 64 → 0 < z h → Ho (p h) = nI h ∧ Pk (p h / 16) = nI (cf_kd (z h)) ∧ p h % cf_wd (cf_kd (z h)) = 0 ∧ p h < 16 * P
def cf_Bk (z p : Nat → Nat) (Ho : Nat → Int32) : Prop :=
  ∀ q, q < 192 → Ho q ≠ -1 → ∃ h, h < 64 ∧ 0 < z h ∧ Ho q = nI h ∧ p h = q
def cf_C1 (P : Nat) (Pk : Nat → Int32) : Prop := ∀ g, g < P → Pk g ≠ -1 → ∃ k, k < 4 ∧ Pk g = nI k
def cf_AB (P : Nat) (z p : Nat → Nat) (Ho Pk : Nat → Int32) : Prop := cf_A P z p Ho Pk ∧ cf_Bk z p Ho ∧ cf_C1 P Pk
def cf_CD (P : Nat) (H : Nat → Nat) (Pk : Nat → Int32) : Prop :=
  (∀ g, g < P → Pk g ≠ -1 → 0 < H g) ∧
  (∀ g g' k, g < P → g' < P → k < 4 → Pk g = nI k → Pk g' = nI k → H g < cf_pr k → H g' < cf_pr k → g = g')
/-- two live objects never begin at one place -/
theorem cf_pne {P : Nat} {z p : Nat → Nat} {Ho Pk : Nat → Int32} (A : cf_A P z p Ho Pk) {x y : Nat} (hx : x < 64) (hy : y < 64) (lx : 0 < z x) (ly : 0 < z y) (n : x ≠ y) : p x ≠ p y := by
  intro e
  have a := (A x hx lx).1
  have b := (A y hy ly).1
  rw [e, b] at a
  exact n (cf_inj (by omega) (by omega) a).symm
theorem cf_inpg {k q i : Nat} (hk : k < 4) (hq : q % cf_wd k = 0) (hi : i < cf_wd k) : (q + i) / 16 = q / 16 := by
  rcases cf_4 hk with rfl | rfl | rfl | rfl
  · rw [show cf_wd 0 = 2 from rfl] at hq hi; omega
  · rw [show cf_wd 1 = 4 from rfl] at hq hi; omega
  · rw [show cf_wd 2 = 8 from rfl] at hq hi; omega
  · rw [show cf_wd 3 = 16 from rfl] at hq hi; omega
theorem cf_apart {k a b i j : Nat} (hk : k < 4) (ha : a % cf_wd k = 0) (hb : b % cf_wd k = 0) (n : a ≠ b) (hi : i < cf_wd k) (hj : j < cf_wd k) : a + i ≠ b + j := by
  rcases cf_4 hk with rfl | rfl | rfl | rfl
  · rw [show cf_wd 0 = 2 from rfl] at ha hb hi hj; omega
  · rw [show cf_wd 1 = 4 from rfl] at ha hb hi hj; omega
  · rw [show cf_wd 2 = 8 from rfl] at ha hb hi hj; omega
  · rw [show cf_wd 3 = 16 from rfl] at ha hb hi hj; omega
/-- the words of a slot at q, of the class of its page, are no words of a live object elsewhere -/
theorem cf_dq {P : Nat} {z p : Nat → Nat} {Ho Pk : Nat → Int32} (A : cf_A P z p Ho Pk) (hz : ∀ h, z h ≤ 16) {y q k : Nat} (hy : y < 64) (ly : 0 < z y) (hk : k < 4) (hq : q % cf_wd k = 0) (hp : Pk (q / 16) = nI k) (n : q ≠ p y) {i j : Nat} (hi : i < cf_wd k) (hj : j < z y) : q + i ≠ p y + j := by
  obtain ⟨-, a2, a3, -⟩ := A y hy ly
  have f := cf_fit (z y) (by have := hz y; omega)
  have k2 := cf_kd4 (z y)
  by_cases e : q / 16 = p y / 16
  · rw [e, a2] at hp
    have ek : cf_kd (z y) = k := cf_inj (by omega) (by omega) hp
    rw [ek] at a3 f
    exact cf_apart hk hq a3 n hi (by omega)
  · have b1 := cf_inpg hk hq hi
    have b2 := cf_inpg k2 a3 (i := j) (by omega)
    intro w
    rw [w, b2] at b1
    exact e b1.symm
theorem cf_dis {P : Nat} {z p : Nat → Nat} {Ho Pk : Nat → Int32} (A : cf_A P z p Ho Pk) (hz : ∀ h, z h ≤ 16) {x y : Nat} (hx : x < 64) (hy : y < 64) (n : x ≠ y) {i j : Nat} (hi : i < z x) (hj : j < z y) : p x + i ≠ p y + j := by
  obtain ⟨-, a2, a3, -⟩ := A x hx (by omega)
  have f := cf_fit (z x) (by have := hz x; omega)
  exact cf_dq A hz hy (by omega) (cf_kd4 _) a3 a2 (cf_pne A hx hy (by omega) (by omega) n) (by omega) hj
/-- all words of an object lie in the store -/
theorem cf_inst {P : Nat} {z p : Nat → Nat} {Ho Pk : Nat → Int32} (A : cf_A P z p Ho Pk) (hP : P ≤ 12) (hz : ∀ h, z h ≤ 16) {x i : Nat} (hx : x < 64) (hi : i < z x) : p x + i < 192 := by
  obtain ⟨-, -, a3, a4⟩ := A x hx (by omega)
  have f := cf_fit (z x) (by have := hz x; omega)
  have b := cf_inpg (cf_kd4 _) a3 (i := i) (by omega)
  omega
/-! how full a page is -/
theorem cf_hl_o {Ho : Nat → Int32} {q g : Nat} {x : Int32} (h : q / 16 ≠ g) : cf_hl (upd Ho q x) g = cf_hl Ho g := by
  unfold cf_hl
  refine cf_cn_congr (fun i hi => ?_)
  show (upd Ho q x (16 * g + i) ≠ -1) ↔ (Ho (16 * g + i) ≠ -1)
  rw [cf_vn (by omega)]
theorem cf_hl_at {Ho : Nat → Int32} {q g : Nat} {x : Int32} (h : q / 16 = g) : cf_hl (upd Ho q x) g + cf_b (Ho q ≠ -1) = cf_hl Ho g + cf_b (x ≠ -1) := by
  have e : cf_cn (fun i => upd Ho q x (16 * g + i) ≠ -1) 16 + cf_b (Ho (16 * g + q % 16) ≠ -1)
      = cf_cn (fun i => Ho (16 * g + i) ≠ -1) 16 + cf_b (upd Ho q x (16 * g + q % 16) ≠ -1) :=
    cf_cn_pt (p := fun i => Ho (16 * g + i) ≠ -1) (q := fun i => upd Ho q x (16 * g + i) ≠ -1) (k := q % 16) (n := 16) (by omega)
      (fun i _ hn => by
        show (upd Ho q x (16 * g + i) ≠ -1) ↔ (Ho (16 * g + i) ≠ -1)
        rw [cf_vn (by omega)])
  rw [show 16 * g + q % 16 = q from by omega, cf_vs] at e
  exact e
theorem cf_hl_c {Ho Ho' : Nat → Int32} {g : Nat} (h : ∀ q, q / 16 = g → (Ho' q ≠ -1 ↔ Ho q ≠ -1)) : cf_hl Ho' g = cf_hl Ho g := by
  unfold cf_hl
  exact cf_cn_congr (fun i hi => h _ (by omega))
theorem cf_hl_in {Ho : Nat → Int32} {q g : Nat} (h : q / 16 = g) (n : Ho q ≠ -1) : 0 < cf_hl Ho g := by
  unfold cf_hl
  refine cf_cn_in (i := q % 16) (by omega) ?_
  rw [show 16 * g + q % 16 = q from by omega]
  exact n
theorem cf_hl_pos {Ho : Nat → Int32} {g : Nat} (h : 0 < cf_hl Ho g) : ∃ q, q / 16 = g ∧ Ho q ≠ -1 := by
  obtain ⟨i, hi, e⟩ := cf_cn_pos h
  exact ⟨16 * g + i, by omega, e⟩
/-- a page that isn't full has a free slot -/
theorem cf_hole {Ho : Nat → Int32} {g k : Nat} (hk : k < 4) (h : cf_hl Ho g < cf_pr k) : ∃ s, s < cf_pr k ∧ Ho (16 * g + s * cf_wd k) = -1 := by
  by_cases e : ∃ s, s < cf_pr k ∧ Ho (16 * g + s * cf_wd k) = -1
  · exact e
  · exfalso
    have hall : ∀ s, s < cf_pr k → Ho (16 * g + s * cf_wd k) ≠ -1 := fun s hs z => e ⟨s, hs, z⟩
    have hw : ∀ s, s < cf_pr k → s * cf_wd k < 16 := by
      intro s hs
      rcases cf_4 hk with rfl | rfl | rfl | rfl
      · rw [show cf_pr 0 = 8 from rfl] at hs; rw [show cf_wd 0 = 2 from rfl]; omega
      · rw [show cf_pr 1 = 4 from rfl] at hs; rw [show cf_wd 1 = 4 from rfl]; omega
      · rw [show cf_pr 2 = 2 from rfl] at hs; rw [show cf_wd 2 = 8 from rfl]; omega
      · rw [show cf_pr 3 = 1 from rfl] at hs; rw [show cf_wd 3 = 16 from rfl]; omega
    have a : cf_cn (fun _ => True) (cf_pr k) ≤ cf_cn (fun i => Ho (16 * g + i) ≠ -1) 16 :=
      cf_cn_inj (fun _ => True) (fun s => s * cf_wd k) 16 (cf_pr k) (fun i => Ho (16 * g + i) ≠ -1)
        (fun s hs _ => ⟨hw s hs, hall s hs⟩)
        (fun i j _ _ _ _ w => Nat.eq_of_mul_eq_mul_right (by have := cf_wd16 hk; omega) w)
    have a2 : cf_cn (fun _ => True) (cf_pr k) = cf_pr k := cf_cn_all (fun _ _ => trivial)
    have b : cf_hl Ho g = cf_cn (fun i => Ho (16 * g + i) ≠ -1) 16 := rfl
    omega
/-! AB under the five changes -/
theorem cf_rm {P : Nat} {z p : Nat → Nat} {Ho Pk : Nat → Int32} (J : cf_AB P z p Ho Pk) {h : Nat} (hh : h < 64) (lh : 0 < z h) : cf_AB P (cf_u z h 0) p (upd Ho (p h) (-1)) Pk := by
  obtain ⟨A, B, C⟩ := J
  refine ⟨fun x hx lx => ?_, fun q hq nq => ?_, C⟩
  · by_cases e : x = h
    · rw [e, cf_us] at lx; omega
    · rw [cf_un e] at lx ⊢
      rw [cf_vn (cf_pne A hx hh lx lh e)]
      exact A x hx lx
  · by_cases e : q = p h
    · rw [e, cf_vs] at nq; exact absurd rfl nq
    · rw [cf_vn e] at nq ⊢
      obtain ⟨x, hx, lx, ex, px⟩ := B q hq nq
      have n : x ≠ h := fun w => e (by rw [← px, w])
      exact ⟨x, hx, by rw [cf_un n]; exact lx, ex, px⟩
theorem cf_mv {P : Nat} {z p : Nat → Nat} {Ho Pk : Nat → Int32} (J : cf_AB P z p Ho Pk) {x q : Nat} (hx : x < 64) (lx : 0 < z x) (hq : q < 16 * P) (fq : Ho q = -1) (hk : Pk (q / 16) = nI (cf_kd (z x))) (ha : q % cf_wd (cf_kd (z x)) = 0) : cf_AB P z (cf_u p x q) (upd (upd Ho (p x) (-1)) q (nI x)) Pk := by
  obtain ⟨A, B, C⟩ := J
  have nq : ∀ y, y < 64 → 0 < z y → p y ≠ q := by
    intro y hy ly e
    have a := (A y hy ly).1
    rw [e, fq] at a
    exact cf_nm1 (by omega) a.symm
  refine ⟨fun y hy ly => ?_, fun r hr nr => ?_, C⟩
  · by_cases e : y = x
    · rw [e, cf_us, cf_vs]
      exact ⟨rfl, hk, ha, hq⟩
    · rw [cf_un e, cf_vn (nq y hy ly), cf_vn (cf_pne A hy hx ly lx e)]
      exact A y hy ly
  · by_cases e : r = q
    · rw [e, cf_vs]
      exact ⟨x, hx, lx, rfl, cf_us⟩
    · rw [cf_vn e] at nr ⊢
      by_cases e2 : r = p x
      · rw [e2, cf_vs] at nr; exact absurd rfl nr
      · rw [cf_vn e2] at nr ⊢
        obtain ⟨y, hy, ly, ey, py⟩ := B r hr nr
        have n : y ≠ x := fun w => e2 (by rw [← py, w])
        exact ⟨y, hy, ly, ey, by rw [cf_un n]; exact py⟩
theorem cf_put {P : Nat} {z p : Nat → Nat} {Ho Pk : Nat → Int32} (J : cf_AB P z p Ho Pk) {x q n : Nat} (hx : x < 64) (dx : z x = 0) (hq : q < 16 * P) (fq : Ho q = -1) (hn : 0 < n) (hk : Pk (q / 16) = nI (cf_kd n)) (ha : q % cf_wd (cf_kd n) = 0) : cf_AB P (cf_u z x n) (cf_u p x q) (upd Ho q (nI x)) Pk := by
  obtain ⟨A, B, C⟩ := J
  have nq : ∀ y, y < 64 → 0 < z y → p y ≠ q := by
    intro y hy ly e
    have a := (A y hy ly).1
    rw [e, fq] at a
    exact cf_nm1 (by omega) a.symm
  refine ⟨fun y hy ly => ?_, fun r hr nr => ?_, C⟩
  · by_cases e : y = x
    · rw [e, cf_us, cf_us, cf_vs]
      exact ⟨rfl, hk, ha, hq⟩
    · rw [cf_un e] at ly
      rw [cf_un e, cf_un e, cf_vn (nq y hy ly)]
      exact A y hy ly
  · by_cases e : r = q
    · rw [e, cf_vs]
      exact ⟨x, hx, by rw [cf_us]; exact hn, rfl, cf_us⟩
    · rw [cf_vn e] at nr ⊢
      obtain ⟨y, hy, ly, ey, py⟩ := B r hr nr
      have w : y ≠ x := fun w => by rw [w] at ly; omega
      exact ⟨y, hy, by rw [cf_un w]; exact ly, ey, by rw [cf_un w]; exact py⟩
/-- a page without objects takes any class, or none -/
theorem cf_pk {P : Nat} {z p : Nat → Nat} {Ho Pk : Nat → Int32} (J : cf_AB P z p Ho Pk) {g : Nat} {v : Int32} (h0 : cf_hl Ho g = 0) (hv : v ≠ -1 → ∃ k, k < 4 ∧ v = nI k) : cf_AB P z p Ho (upd Pk g v) := by
  obtain ⟨A, B, C⟩ := J
  refine ⟨fun x hx lx => ?_, B, fun r hr nr => ?_⟩
  · have a := A x hx lx
    have n : p x / 16 ≠ g := by
      intro e
      have := cf_hl_in (Ho := Ho) e (by rw [a.1]; exact cf_nm1 (by omega))
      omega
    rw [cf_vn n]
    exact a
  · by_cases e : r = g
    · rw [e, cf_vs] at nr ⊢
      exact hv nr
    · rw [cf_vn e] at nr ⊢
      exact C r hr nr
/-- a page that isn't in use has no objects -/
theorem cf_h0 {P : Nat} {z p : Nat → Nat} {Ho Pk : Nat → Int32} (J : cf_AB P z p Ho Pk) {g : Nat} (hg : g < 12) (h : Pk g = -1) : cf_hl Ho g = 0 := by
  obtain ⟨A, B, C⟩ := J
  by_cases e : 0 < cf_hl Ho g
  · obtain ⟨q, hq, n⟩ := cf_hl_pos e
    obtain ⟨x, hx, lx, -, px⟩ := B q (by omega) n
    have a := (A x hx lx).2.1
    rw [px, hq, h] at a
    exact absurd a.symm (cf_nm1 (by have := cf_kd4 (z x); omega))
  · omega
theorem cf_ex {P : Nat} {z p : Nat → Nat} {Ho Pk : Nat → Int32} (J : cf_AB P z p Ho Pk) {a b : Nat} (ha : a < 64) (hb : b < 64) (la : 0 < z a) (lb : 0 < z b) :
    cf_AB P (cf_u (cf_u z a (z b)) b (z a)) (cf_u (cf_u p a (p b)) b (p a)) (upd (upd Ho (p b) (nI a)) (p a) (nI b)) Pk := by
  obtain ⟨A, B, C⟩ := J
  refine ⟨fun x hx lx => ?_, fun r hr nr => ?_, C⟩
  · by_cases e : x = b
    · rw [e, cf_us, cf_us, cf_vs]
      exact ⟨rfl, (A a ha la).2⟩
    · rw [cf_un e] at lx
      rw [cf_un e, cf_un e]
      by_cases e2 : x = a
      · rw [e2] at e
        rw [e2, cf_us, cf_us, cf_vn (cf_pne A hb ha lb la (fun w => e w.symm)), cf_vs]
        exact ⟨rfl, (A b hb lb).2⟩
      · rw [cf_un e2] at lx
        rw [cf_un e2, cf_un e2, cf_vn (cf_pne A hx ha lx la e2), cf_vn (cf_pne A hx hb lx lb e)]
        exact A x hx lx
  · by_cases e : r = p a
    · rw [e, cf_vs]
      exact ⟨b, hb, by rw [cf_us]; exact la, rfl, cf_us⟩
    · rw [cf_vn e] at nr ⊢
      by_cases e2 : r = p b
      · have w : a ≠ b := fun w => e (by rw [e2, w])
        rw [e2, cf_vs]
        exact ⟨a, ha, by rw [cf_un w, cf_us]; exact lb, rfl, by rw [cf_un w, cf_us]⟩
      · rw [cf_vn e2] at nr ⊢
        obtain ⟨x, hx, lx, ex, px⟩ := B r hr nr
        have wa : x ≠ a := fun w => e (by rw [← px, w])
        have wb : x ≠ b := fun w => e2 (by rw [← px, w])
        exact ⟨x, hx, by rw [cf_un wb, cf_un wa]; exact lx, ex, by rw [cf_un wb, cf_un wa]; exact px⟩
/-! CD under the changes of fullness -/
theorem cf_cd_c {P : Nat} {H H' : Nat → Nat} {Pk : Nat → Int32} (D : cf_CD P H Pk) (h : ∀ g, g < P → H' g = H g) : cf_CD P H' Pk := by
  obtain ⟨c, d⟩ := D
  refine ⟨fun g hg n => by rw [h g hg]; exact c g hg n, fun g g' k hg hg' hk e e' l l' => ?_⟩
  rw [h g hg] at l
  rw [h g' hg'] at l'
  exact d g g' k hg hg' hk e e' l l'
/-- one goes from page o, which is the only one of its class that isn't full then -/
theorem cf_cd_dec {P : Nat} {H H' : Nat → Nat} {Pk : Nat → Int32} {o k : Nat} (D : cf_CD P H Pk) (hk : k < 4) (ek : Pk o = nI k) (h1 : ∀ g, g < P → g ≠ o → H' g = H g)
    (h2 : ∀ g, g < P → g ≠ o → Pk g = nI k → ¬ H' g < cf_pr k) :
    (0 < H' o → cf_CD P H' Pk) ∧ cf_CD P H' (upd Pk o (-1)) := by
  obtain ⟨c, d⟩ := D
  have dd : ∀ g g' k', g < P → g' < P → k' < 4 → Pk g = nI k' → Pk g' = nI k' → H' g < cf_pr k' → H' g' < cf_pr k' → g = g' := by
    intro g g' k' hg hg' hk' e e' l l'
    by_cases w : k' = k
    · rw [w] at e e' l l'
      by_cases a : g = o
      · by_cases b : g' = o
        · rw [a, b]
        · exact absurd l' (h2 g' hg' b e')
      · exact absurd l (h2 g hg a e)
    · have a : g ≠ o := fun z => by
        rw [z, ek] at e
        exact w (cf_inj (by omega) (by omega) e).symm
      have b : g' ≠ o := fun z => by
        rw [z, ek] at e'
        exact w (cf_inj (by omega) (by omega) e').symm
      rw [h1 g hg a] at l
      rw [h1 g' hg' b] at l'
      exact d g g' k' hg hg' hk' e e' l l'
  refine ⟨fun p0 => ⟨fun g hg n => ?_, dd⟩, fun g hg n => ?_, fun g g' k' hg hg' hk' e e' l l' => ?_⟩
  · by_cases a : g = o
    · rw [a]; exact p0
    · rw [h1 g hg a]; exact c g hg n
  · by_cases a : g = o
    · rw [a, cf_vs] at n; exact absurd rfl n
    · rw [cf_vn a] at n
      rw [h1 g hg a]; exact c g hg n
  · have a : g ≠ o := fun z => by
      rw [z, cf_vs] at e
      exact cf_nm1 (by omega) e.symm
    have b : g' ≠ o := fun z => by
      rw [z, cf_vs] at e'
      exact cf_nm1 (by omega) e'.symm
    rw [cf_vn a] at e
    rw [cf_vn b] at e'
    exact dd g g' k' hg hg' hk' e e' l l'
/-- one comes onto page o: one that isn't full, or a new one where the class has none that isn't full -/
theorem cf_cd_inc {P : Nat} {H H' : Nat → Nat} {Pk : Nat → Int32} {o k : Nat} (D : cf_CD P H Pk) (hk : k < 4) (h0 : 0 < H' o) (h1 : ∀ g, g < P → g ≠ o → H' g = H g)
    (h2 : (Pk o = nI k ∧ H o < cf_pr k ∧ o < P) ∨ (∀ g, g < P → g ≠ o → Pk g = nI k → ¬ H g < cf_pr k)) : cf_CD P H' (upd Pk o (nI k)) := by
  obtain ⟨c, d⟩ := D
  refine ⟨fun g hg n => ?_, fun g g' k' hg hg' hk' e e' l l' => ?_⟩
  · by_cases a : g = o
    · rw [a]; exact h0
    · rw [cf_vn a] at n
      rw [h1 g hg a]; exact c g hg n
  · by_cases w : k' = k
    · rw [w] at e e' l l'
      have key : ∀ r, r < P → r ≠ o → upd Pk o (nI k) r = nI k → H' r < cf_pr k → False := by
        intro r hr n er lr
        rw [cf_vn n] at er
        rw [h1 r hr n] at lr
        rcases h2 with ⟨x, y, ho⟩ | x
        · exact n (d r o k hr ho hk er x lr y)
        · exact x r hr n er lr
      by_cases a : g = o
      · by_cases b : g' = o
        · rw [a, b]
        · exact (key g' hg' b e' l').elim
      · exact (key g hg a e l).elim
    · have a : g ≠ o := fun z => by
        rw [z, cf_vs] at e
        exact w (cf_inj (by omega) (by omega) e).symm
      have b : g' ≠ o := fun z => by
        rw [z, cf_vs] at e'
        exact w (cf_inj (by omega) (by omega) e').symm
      rw [cf_vn a] at e
      rw [cf_vn b] at e'
      rw [h1 g hg a] at l
      rw [h1 g' hg' b] at l'
      exact d g g' k' hg hg' hk' e e' l l'
/-! the pages suffice -/
theorem cf_core (Pk : Nat → Int32) (H : Nat → Nat) (k r : Nat) (hr : 0 < r) (P : Nat)
    (h1 : ∀ g, g < P → Pk g = nI k → 0 < H g)
    (h2 : ∀ g g', g < P → g' < P → Pk g = nI k → Pk g' = nI k → H g < r → H g' < r → g = g') :
    ((∀ g, g < P → Pk g = nI k → r ≤ H g) → cf_cn (fun g => Pk g = nI k) P * r ≤ cf_sm (fun g => if Pk g = nI k then H g else 0) P) ∧
    cf_cn (fun g => Pk g = nI k) P * r + 1 ≤ cf_sm (fun g => if Pk g = nI k then H g else 0) P + r := by
  induction P with
  | zero =>
    refine ⟨fun _ => ?_, ?_⟩
    · show 0 * r ≤ 0
      omega
    · show 0 * r + 1 ≤ 0 + r
      omega
  | succ P ih =>
    obtain ⟨i1, i2⟩ := ih (fun g hg => h1 g (by omega)) (fun g g' hg hg' => h2 g g' (by omega) (by omega))
    rw [cf_cn_s, cf_sm_s]
    by_cases e : Pk P = nI k
    · rw [cf_bt e, if_pos e, Nat.add_mul, Nat.one_mul]
      have f1 := h1 P (by omega) e
      refine ⟨fun hf => ?_, ?_⟩
      · have a := i1 (fun g hg => hf g (by omega))
        have b := hf P (by omega) e
        omega
      · by_cases hp : H P < r
        · have a := i1 (fun g hg eg => by
            by_cases hq : H g < r
            · have w := h2 g P (by omega) (by omega) eg e hq hp
              omega
            · omega)
          omega
        · omega
    · rw [cf_bf e, if_neg e]
      exact ⟨fun hf => i1 (fun g hg => hf g (by omega)), i2⟩
theorem cf_sumP (Pk : Nat → Int32) (P : Nat) (h : ∀ g, g < P → ∃ k, k < 4 ∧ Pk g = nI k) :
    P ≤ cf_cn (fun g => Pk g = nI 0) P + cf_cn (fun g => Pk g = nI 1) P + cf_cn (fun g => Pk g = nI 2) P + cf_cn (fun g => Pk g = nI 3) P := by
  induction P with
  | zero => exact Nat.zero_le _
  | succ P ih =>
    have i := ih (fun g hg => h g (by omega))
    obtain ⟨k, hk, e⟩ := h P (by omega)
    rw [cf_cn_s, cf_cn_s, cf_cn_s, cf_cn_s]
    rcases cf_4 hk with rfl | rfl | rfl | rfl
    · rw [cf_bt (p := Pk P = nI 0) e]; omega
    · rw [cf_bt (p := Pk P = nI 1) e]; omega
    · rw [cf_bt (p := Pk P = nI 2) e]; omega
    · rw [cf_bt (p := Pk P = nI 3) e]; omega
/-- what lies on the pages of a class are objects of that class -/
theorem cf_inS {P : Nat} {z p : Nat → Nat} {Ho Pk : Nat → Int32} (J : cf_AB P z p Ho Pk) (hP : P ≤ 12) {c : Nat} (hc : c < 4) :
    cf_sm (fun g => if Pk g = nI c then cf_hl Ho g else 0) P ≤ cf_nk z c := by
  obtain ⟨A, B, C⟩ := J
  have e : cf_sm (fun g => if Pk g = nI c then cf_hl Ho g else 0) P = cf_cn (fun q => Ho q ≠ -1 ∧ Pk (q / 16) = nI c) (16 * P) := by
    rw [cf_blk]
    refine cf_sm_congr (fun g hg => ?_)
    show (if Pk g = nI c then cf_hl Ho g else 0) = cf_cn (fun i => Ho (16 * g + i) ≠ -1 ∧ Pk ((16 * g + i) / 16) = nI c) 16
    by_cases w : Pk g = nI c
    · rw [if_pos w]
      refine cf_cn_congr (fun i hi => ?_)
      show (Ho (16 * g + i) ≠ -1) ↔ (Ho (16 * g + i) ≠ -1 ∧ Pk ((16 * g + i) / 16) = nI c)
      rw [show (16 * g + i) / 16 = g from by omega]
      exact ⟨fun a => ⟨a, w⟩, fun a => a.1⟩
    · rw [if_neg w]
      refine (cf_cn_none (fun i hi => ?_)).symm
      show ¬ (Ho (16 * g + i) ≠ -1 ∧ Pk ((16 * g + i) / 16) = nI c)
      rw [show (16 * g + i) / 16 = g from by omega]
      exact fun a => w a.2
  rw [e]
  have key : ∀ q, q < 16 * P → (Ho q ≠ -1 ∧ Pk (q / 16) = nI c) → ∃ h, h < 64 ∧ 0 < z h ∧ (Ho q).toNatClampNeg = h ∧ p h = q ∧ cf_kd (z h) = c := by
    intro q hq hn
    obtain ⟨h, hh, lh, eh, ph⟩ := B q (by omega) hn.1
    have a := (A h hh lh).2.1
    rw [ph, hn.2] at a
    have k4 := cf_kd4 (z h)
    refine ⟨h, hh, lh, ?_, ph, (cf_inj (by omega) (by omega) a).symm⟩
    rw [eh, nI_clamp (by omega)]
  refine cf_cn_inj (fun q => Ho q ≠ -1 ∧ Pk (q / 16) = nI c) (fun q => (Ho q).toNatClampNeg) 64 (16 * P) (fun h => 0 < z h ∧ cf_kd (z h) = c) (fun q hq hn => ?_) (fun q r hq hr hn hm w => ?_)
  · obtain ⟨h, hh, lh, eh, ph, kh⟩ := key q hq hn
    show (Ho q).toNatClampNeg < 64 ∧ 0 < z (Ho q).toNatClampNeg ∧ cf_kd (z (Ho q).toNatClampNeg) = c
    rw [eh]
    exact ⟨hh, lh, kh⟩
  · obtain ⟨h, hh, lh, eh, ph, kh⟩ := key q hq hn
    obtain ⟨h', hh', lh', eh', ph', kh'⟩ := key r hr hm
    have w' : (Ho q).toNatClampNeg = (Ho r).toNatClampNeg := w
    rw [← ph, ← ph', ← eh, ← eh', w']
/-- where one more object of class k needs no more than P pages, there is a page for it -/
theorem cf_find {P : Nat} {z p : Nat → Nat} {Ho Pk : Nat → Int32} (J : cf_AB P z p Ho Pk) (D : cf_CD P (cf_hl Ho) Pk) (hP : P ≤ 12) {k : Nat} (hk : k < 4)
    (hn : cf_nd (fun c => cf_nk z c + if c = k then 1 else 0) ≤ P) (h1 : ∀ g, g < P → Pk g = nI k → ¬ cf_hl Ho g < cf_pr k) (h2 : ∀ g, g < P → Pk g ≠ -1) : False := by
  have lo : ∀ c, c < 4 → cf_cn (fun g => Pk g = nI c) P ≤ cf_pg c (cf_nk z c) := by
    intro c hc
    have a := (cf_core Pk (cf_hl Ho) c (cf_pr c) (by have := cf_pr8 hc; omega) P
      (fun g hg e => D.1 g hg (h2 g hg)) (fun g g' hg hg' e e' l l' => D.2 g g' c hg hg' hc e e' l l')).2
    have b := cf_inS J hP hc
    exact cf_pg_lo hc (by omega)
  have hi : cf_cn (fun g => Pk g = nI k) P + 1 ≤ cf_pg k (cf_nk z k + 1) := by
    have a := (cf_core Pk (cf_hl Ho) k (cf_pr k) (by have := cf_pr8 hk; omega) P
      (fun g hg e => D.1 g hg (h2 g hg)) (fun g g' hg hg' e e' l l' => D.2 g g' k hg hg' hk e e' l l')).1
      (fun g hg e => by have := h1 g hg e; omega)
    have b := cf_inS J hP hk
    exact cf_pg_hi hk (by omega)
  have s := cf_sumP Pk P (fun g hg => J.2.2 g hg (h2 g hg))
  have l0 := lo 0 (by decide)
  have l1 := lo 1 (by decide)
  have l2 := lo 2 (by decide)
  have l3 := lo 3 (by decide)
  unfold cf_nd at hn
  rcases cf_4 hk with rfl | rfl | rfl | rfl
  · simp only [if_true, if_false, Nat.add_zero, show (1 : Nat) = 0 ↔ False from by decide, show (2 : Nat) = 0 ↔ False from by decide, show (3 : Nat) = 0 ↔ False from by decide] at hn
    omega
  · simp only [if_true, if_false, Nat.add_zero, show (0 : Nat) = 1 ↔ False from by decide, show (2 : Nat) = 1 ↔ False from by decide, show (3 : Nat) = 1 ↔ False from by decide] at hn
    omega
  · simp only [if_true, if_false, Nat.add_zero, show (0 : Nat) = 2 ↔ False from by decide, show (1 : Nat) = 2 ↔ False from by decide, show (3 : Nat) = 2 ↔ False from by decide] at hn
    omega
  · simp only [if_true, if_false, Nat.add_zero, show (0 : Nat) = 3 ↔ False from by decide, show (1 : Nat) = 3 ↔ False from by decide, show (2 : Nat) = 3 ↔ False from by decide] at hn
    omega
end
section
/-! words written one behind another -/
def cf_wr (w : Nat → Int32) (b : Nat) (v : Nat → Int32) (n : Nat) : Nat → Int32 := fun q => if b ≤ q ∧ q < b + n then v (q - b) else w q
theorem cf_wr_0 (w : Nat → Int32) (b : Nat) (v : Nat → Int32) : cf_wr w b v 0 = w := by
  funext q
  exact if_neg (by omega)
theorem cf_wr_in {w : Nat → Int32} {b : Nat} {v : Nat → Int32} {n j : Nat} (h : j < n) : cf_wr w b v n (b + j) = v j := by
  unfold cf_wr
  rw [if_pos (by omega), show b + j - b = j from by omega]
theorem cf_wr_out {w : Nat → Int32} {b : Nat} {v : Nat → Int32} {n q : Nat} (h : ∀ j, j < n → q ≠ b + j) : cf_wr w b v n q = w q := by
  unfold cf_wr
  refine if_neg (fun z => ?_)
  exact h (q - b) (by omega) (by omega)
theorem cf_wr_s (w : Nat → Int32) (b : Nat) (v : Nat → Int32) (n : Nat) : upd (cf_wr w b v n) (b + n) (v n) = cf_wr w b v (n + 1) := by
  funext q
  by_cases e : q = b + n
  · rw [e, cf_vs, cf_wr_in (by omega)]
  · rw [cf_vn e]
    unfold cf_wr
    by_cases i : b ≤ q ∧ q < b + n
    · rw [if_pos i, if_pos (by omega)]
    · rw [if_neg i, if_neg (by omega)]
theorem cf_wr_c {w : Nat → Int32} {b : Nat} {v v' : Nat → Int32} {n : Nat} (h : ∀ j, j < n → v j = v' j) : cf_wr w b v n = cf_wr w b v' n := by
  funext q
  unfold cf_wr
  by_cases i : b ≤ q ∧ q < b + n
  · rw [if_pos i, if_pos i, h _ (by omega)]
  · rw [if_neg i, if_neg i]
/-! the component's state: P pages, sizes z, places p, contents c -/
def cf_X (P : Nat) (z p : Nat → Nat) (c : Nat → Nat → Int32) (w Ho Pk : Nat → Int32) : Prop :=
  2 ≤ P ∧ P ≤ 12 ∧ (∀ h, z h ≤ 16) ∧ (∀ h, p h < 192) ∧ cf_AB P z p Ho Pk ∧ cf_CD P (cf_hl Ho) Pk ∧
  (∀ h, h < 64 → ∀ j, j < z h → w (p h + j) = c h j)
theorem cf_Xc {P : Nat} {z p : Nat → Nat} {c c' : Nat → Nat → Int32} {w w' Ho Pk : Nat → Int32} (X : cf_X P z p c w Ho Pk)
    (h : ∀ h, h < 64 → ∀ j, j < z h → w' (p h + j) = c' h j) : cf_X P z p c' w' Ho Pk := by
  obtain ⟨h1, h2, h3, h4, h5, h6, -⟩ := X
  exact ⟨h1, h2, h3, h4, h5, h6, h⟩
/-- an object of the component gets other words -/
theorem cf_Xw {P : Nat} {z p : Nat → Nat} {c c' : Nat → Nat → Int32} {w Ho Pk : Nat → Int32} (X : cf_X P z p c w Ho Pk) {x a n : Nat} {v : Nat → Int32} (hx : x < 64) (hn : a + n ≤ z x)
    (h1 : ∀ j, j < n → c' x (a + j) = v j) (h2 : ∀ j, j < z x → (j < a ∨ a + n ≤ j) → c' x j = c x j) (h3 : ∀ y, y < 64 → y ≠ x → ∀ j, j < z y → c' y j = c y j) :
    cf_X P z p c' (cf_wr w (p x + a) v n) Ho Pk := by
  have X0 := X
  obtain ⟨-, -, hz, -, J, -, hw⟩ := X0
  refine cf_Xc X (fun y hy j hj => ?_)
  by_cases e : y = x
  · rw [e] at hj ⊢
    by_cases i : a ≤ j ∧ j < a + n
    · obtain ⟨m, rfl⟩ : ∃ m, j = a + m := ⟨j - a, by omega⟩
      rw [← Nat.add_assoc, cf_wr_in (by omega), h1 m (by omega)]
    · rw [cf_wr_out (fun m hm => by omega), hw x hx j hj, h2 j hj (by omega)]
  · rw [cf_wr_out (fun m hm => ?_), hw y hy j hj, h3 y hy e j hj]
    have d := cf_dis J.1 hz hy hx e (i := j) (j := a + m) hj (by omega)
    omega
/-- an object goes, no other page of its class has holes -/
theorem cf_vac1 {P : Nat} {z p : Nat → Nat} {c : Nat → Nat → Int32} {w Ho Pk : Nat → Int32} (X : cf_X P z p c w Ho Pk) {h : Nat} (hh : h < 64) (lh : 0 < z h)
    (hno : ∀ g, g < P → g ≠ p h / 16 → Pk g = nI (cf_kd (z h)) → ¬ cf_hl (upd Ho (p h) (-1)) g < cf_pr (cf_kd (z h))) :
    (cf_hl (upd Ho (p h) (-1)) (p h / 16) = 0 → cf_X P (cf_u z h 0) p c w (upd Ho (p h) (-1)) (upd Pk (p h / 16) (-1))) ∧
    (0 < cf_hl (upd Ho (p h) (-1)) (p h / 16) → cf_X P (cf_u z h 0) p c w (upd Ho (p h) (-1)) Pk) := by
  obtain ⟨h1, h2, hz, hp, J, D, hw⟩ := X
  have J1 := cf_rm J hh lh
  have hz1 : ∀ x, cf_u z h 0 x ≤ 16 := by
    intro x
    by_cases e : x = h
    · rw [e, cf_us]; omega
    · rw [cf_un e]; exact hz x
  have hw1 : ∀ x, x < 64 → ∀ j, j < cf_u z h 0 x → w (p x + j) = c x j := by
    intro x hx j hj
    by_cases e : x = h
    · rw [e, cf_us] at hj; omega
    · rw [cf_un e] at hj; exact hw x hx j hj
  have d := cf_cd_dec (H' := cf_hl (upd Ho (p h) (-1))) (o := p h / 16) D (cf_kd4 (z h)) (J.1 h hh lh).2.1 (fun g _ n => cf_hl_o (fun e => n e.symm)) hno
  refine ⟨fun e0 => ⟨h1, h2, hz1, hp, cf_pk J1 e0 (fun n => absurd rfl n), d.2, hw1⟩, fun e0 => ⟨h1, h2, hz1, hp, J1, d.1 e0, hw1⟩⟩
/-- an object goes, and x, which lies on page o of its class, moves into the gap -/
theorem cf_vac2 {P : Nat} {z p : Nat → Nat} {c : Nat → Nat → Int32} {w Ho Pk : Nat → Int32} (X : cf_X P z p c w Ho Pk) {h o x : Nat} (hh : h < 64) (lh : 0 < z h)
    (ho : o < P) (no : o ≠ p h / 16) (ko : Pk o = nI (cf_kd (z h))) (lo : cf_hl (upd Ho (p h) (-1)) o < cf_pr (cf_kd (z h)))
    (hx : x < 64) (lx : 0 < cf_u z h 0 x) (px : p x / 16 = o) :
    (cf_hl (upd (upd (upd Ho (p h) (-1)) (p x) (-1)) (p h) (nI x)) o = 0 → cf_X P (cf_u z h 0) (cf_u p x (p h)) c (cf_wr w (p h) (fun j => w (p x + j)) (cf_u z h 0 x)) (upd (upd (upd Ho (p h) (-1)) (p x) (-1)) (p h) (nI x)) (upd Pk o (-1))) ∧
    (0 < cf_hl (upd (upd (upd Ho (p h) (-1)) (p x) (-1)) (p h) (nI x)) o → cf_X P (cf_u z h 0) (cf_u p x (p h)) c (cf_wr w (p h) (fun j => w (p x + j)) (cf_u z h 0 x)) (upd (upd (upd Ho (p h) (-1)) (p x) (-1)) (p h) (nI x)) Pk) := by
  obtain ⟨h1, h2, hz, hp, J, D, hw⟩ := X
  have J1 := cf_rm J hh lh
  have hxh : x ≠ h := by
    intro e
    rw [e, cf_us] at lx
    omega
  have hz1 : ∀ y, cf_u z h 0 y ≤ 16 := by
    intro y
    by_cases e : y = h
    · rw [e, cf_us]; omega
    · rw [cf_un e]; exact hz y
  have hp1 : ∀ y, cf_u p x (p h) y < 192 := by
    intro y
    by_cases e : y = x
    · rw [e, cf_us]; exact hp h
    · rw [cf_un e]; exact hp y
  obtain ⟨a1, a2, a3, a4⟩ := J.1 h hh lh
  have k4 := cf_kd4 (z h)
  have lx0 : 0 < z x := by rw [cf_un hxh] at lx; exact lx
  have kx : cf_kd (cf_u z h 0 x) = cf_kd (z h) := by
    have b := (J.1 x hx lx0).2.1
    rw [px, ko] at b
    rw [cf_un hxh]
    exact (cf_inj (by omega) (by have := cf_kd4 (z x); omega) b).symm
  have J2 := cf_mv J1 hx lx a4 cf_vs (by rw [kx]; exact a2) (by rw [kx]; exact a3)
  have hh1 : upd Ho (p h) (-1) (p x) ≠ -1 := by
    rw [(J1.1 x hx lx).1]
    exact cf_nm1 (by omega)
  have fh : cf_hl (upd (upd (upd Ho (p h) (-1)) (p x) (-1)) (p h) (nI x)) (p h / 16) = cf_hl Ho (p h / 16) := by
    have e1 := cf_hl_at (Ho := Ho) (q := p h) (g := p h / 16) (x := -1) rfl
    have e2 : cf_hl (upd (upd Ho (p h) (-1)) (p x) (-1)) (p h / 16) = cf_hl (upd Ho (p h) (-1)) (p h / 16) := cf_hl_o (by rw [px]; exact no)
    have e3 := cf_hl_at (Ho := upd (upd Ho (p h) (-1)) (p x) (-1)) (q := p h) (g := p h / 16) (x := nI x) rfl
    have n1 : p h ≠ p x := cf_pne J.1 hh hx lh lx0 (fun e => hxh e.symm)
    rw [cf_bt (by rw [a1]; exact cf_nm1 (by omega)), cf_bf (fun n => n rfl)] at e1
    rw [cf_vn n1, cf_vs, cf_bf (fun n => n rfl), cf_bt (cf_nm1 (by omega))] at e3
    omega
  have fo : ∀ g, g ≠ p h / 16 → g ≠ o → cf_hl (upd (upd (upd Ho (p h) (-1)) (p x) (-1)) (p h) (nI x)) g = cf_hl Ho g := by
    intro g n n'
    rw [cf_hl_o (fun e => n e.symm), cf_hl_o (fun e => n' (by rw [← e, px])), cf_hl_o (fun e => n e.symm)]
  have fg : ∀ g, g < P → g ≠ o → cf_hl (upd (upd (upd Ho (p h) (-1)) (p x) (-1)) (p h) (nI x)) g = cf_hl Ho g := by
    intro g _ n
    by_cases e : g = p h / 16
    · rw [e]; exact fh
    · exact fo g e n
  have lo0 : cf_hl Ho o < cf_pr (cf_kd (z h)) := by
    rw [cf_hl_o (fun e => no e.symm)] at lo
    exact lo
  have d := cf_cd_dec (H' := cf_hl (upd (upd (upd Ho (p h) (-1)) (p x) (-1)) (p h) (nI x))) (o := o) D k4 ko fg
    (fun g hg n e l => n (D.2 g o _ hg ho k4 e ko (by rw [fg g hg n] at l; exact l) lo0))
  have hw1 : ∀ y, y < 64 → ∀ j, j < cf_u z h 0 y → cf_wr w (p h) (fun j => w (p x + j)) (cf_u z h 0 x) (cf_u p x (p h) y + j) = c y j := by
    intro y hy j hj
    have yh : y ≠ h := by
      intro e
      rw [e, cf_us] at hj
      omega
    by_cases e : y = x
    · rw [e] at hj ⊢
      rw [cf_us, cf_wr_in hj]
      rw [cf_un hxh] at hj
      exact hw x hx j hj
    · rw [cf_un e, cf_wr_out (fun m hm => ?_)]
      · rw [cf_un yh] at hj
        exact hw y hy j hj
      · have f := cf_fit (cf_u z h 0 x) (by have := hz1 x; omega)
        rw [kx] at f
        have nq : p h ≠ p y := cf_pne J.1 hh hy lh (by rw [cf_un yh] at hj; omega) (fun e => yh e.symm)
        have dd := cf_dq J1.1 hz1 hy (by omega) k4 a3 a2 nq (i := m) (j := j) (by omega) hj
        omega
  refine ⟨fun e0 => ⟨h1, h2, hz1, hp1, cf_pk J2 e0 (fun n => absurd rfl n), d.2, hw1⟩, fun e0 => ⟨h1, h2, hz1, hp1, J2, d.1 e0, hw1⟩⟩
/-- a new object gets the slot s of page g -/
theorem cf_set {P : Nat} {z p : Nat → Nat} {c : Nat → Nat → Int32} {w Ho Pk : Nat → Int32} (X : cf_X P z p c w Ho Pk) {h n g s : Nat} (hh : h < 64) (dh : z h = 0) (n1 : 0 < n) (n16 : n ≤ 16)
    (hg : g < P) (hs : s < cf_pr (cf_kd n)) (fs : Ho (16 * g + s * cf_wd (cf_kd n)) = -1)
    (hc : (Pk g = nI (cf_kd n) ∧ cf_hl Ho g < cf_pr (cf_kd n)) ∨ (Pk g = -1 ∧ ∀ g', g' < P → Pk g' = nI (cf_kd n) → ¬ cf_hl Ho g' < cf_pr (cf_kd n))) :
    cf_X P (cf_u z h n) (cf_u p h (16 * g + s * cf_wd (cf_kd n))) (fun y j => if y = h then w (16 * g + s * cf_wd (cf_kd n) + j) else c y j) w (upd Ho (16 * g + s * cf_wd (cf_kd n)) (nI h)) (upd Pk g (nI (cf_kd n))) := by
  obtain ⟨h1, h2, hz, hp, J, D, hw⟩ := X
  have k4 := cf_kd4 n
  have hq : (16 * g + s * cf_wd (cf_kd n)) / 16 = g ∧ (16 * g + s * cf_wd (cf_kd n)) % cf_wd (cf_kd n) = 0 := by
    generalize cf_kd n = k at hs k4
    rcases cf_4 k4 with rfl | rfl | rfl | rfl
    · rw [show cf_pr 0 = 8 from rfl] at hs; rw [show cf_wd 0 = 2 from rfl]; omega
    · rw [show cf_pr 1 = 4 from rfl] at hs; rw [show cf_wd 1 = 4 from rfl]; omega
    · rw [show cf_pr 2 = 2 from rfl] at hs; rw [show cf_wd 2 = 8 from rfl]; omega
    · rw [show cf_pr 3 = 1 from rfl] at hs; rw [show cf_wd 3 = 16 from rfl]; omega
  generalize hQ : 16 * g + s * cf_wd (cf_kd n) = q at fs hq
  obtain ⟨q1, q2⟩ := hq
  have J1 : cf_AB P z p Ho (upd Pk g (nI (cf_kd n))) := by
    rcases hc with ⟨a, -⟩ | ⟨a, -⟩
    · rw [cf_same a]; exact J
    · exact cf_pk J (cf_h0 J (by omega) a) (fun _ => ⟨_, k4, rfl⟩)
  have J2 := cf_put J1 hh dh (q := q) (n := n) (by omega) fs n1 (by rw [q1]; exact cf_vs) q2
  have e1 := cf_hl_at (Ho := Ho) (q := q) (g := g) (x := nI h) q1
  rw [cf_bf (fun n => n fs), cf_bt (cf_nm1 (by omega))] at e1
  have D1 : cf_CD P (cf_hl (upd Ho q (nI h))) (upd Pk g (nI (cf_kd n))) := by
    refine cf_cd_inc D k4 (by omega) (fun r _ nr => cf_hl_o (by rw [q1]; exact fun e => nr e.symm)) ?_
    rcases hc with ⟨a, b⟩ | ⟨a, b⟩
    · exact Or.inl ⟨a, b, hg⟩
    · exact Or.inr (fun r hr _ er => b r hr er)
  refine ⟨h1, h2, fun x => ?_, fun x => ?_, J2, D1, fun x hx j hj => ?_⟩
  · by_cases e : x = h
    · rw [e, cf_us]; exact n16
    · rw [cf_un e]; exact hz x
  · by_cases e : x = h
    · rw [e, cf_us]; omega
    · rw [cf_un e]; exact hp x
  · by_cases e : x = h
    · rw [e, cf_us]
      show w (q + j) = if h = h then w (q + j) else c h j
      rw [if_pos rfl]
    · rw [cf_un e] at hj ⊢
      show w (p x + j) = if x = h then w (q + j) else c x j
      rw [if_neg e]
      exact hw x hx j hj
/-- two objects change places -/
theorem cf_exX {P : Nat} {z p : Nat → Nat} {c : Nat → Nat → Int32} {w Ho Pk : Nat → Int32} (X : cf_X P z p c w Ho Pk) {a b : Nat} (ha : a < 64) (hb : b < 64) (la : 0 < z a) (lb : 0 < z b) :
    cf_X P (cf_u (cf_u z a (z b)) b (z a)) (cf_u (cf_u p a (p b)) b (p a)) (fun y => if y = b then c a else if y = a then c b else c y) w (upd (upd Ho (p b) (nI a)) (p a) (nI b)) Pk := by
  obtain ⟨h1, h2, hz, hp, J, D, hw⟩ := X
  have J1 := cf_ex J ha hb la lb
  have ea := (J.1 a ha la).1
  have eb := (J.1 b hb lb).1
  have D1 : cf_CD P (cf_hl (upd (upd Ho (p b) (nI a)) (p a) (nI b))) Pk := by
    refine cf_cd_c D (fun g _ => cf_hl_c (fun q _ => ?_))
    by_cases e : q = p a
    · rw [e, cf_vs, ea]
      exact ⟨fun _ => cf_nm1 (by omega), fun _ => cf_nm1 (by omega)⟩
    · rw [cf_vn e]
      by_cases e2 : q = p b
      · rw [e2, cf_vs, eb]
        exact ⟨fun _ => cf_nm1 (by omega), fun _ => cf_nm1 (by omega)⟩
      · rw [cf_vn e2]
  refine ⟨h1, h2, fun x => ?_, fun x => ?_, J1, D1, fun x hx j hj => ?_⟩
  · by_cases e : x = b
    · rw [e, cf_us]; exact hz a
    · rw [cf_un e]
      by_cases e2 : x = a
      · rw [e2, cf_us]; exact hz b
      · rw [cf_un e2]; exact hz x
  · by_cases e : x = b
    · rw [e, cf_us]; exact hp a
    · rw [cf_un e]
      by_cases e2 : x = a
      · rw [e2, cf_us]; exact hp b
      · rw [cf_un e2]; exact hp x
  · show w (cf_u (cf_u p a (p b)) b (p a) x + j) = (if x = b then c a else if x = a then c b else c x) j
    by_cases e : x = b
    · rw [e, cf_us] at hj
      rw [e, cf_us, if_pos rfl]
      exact hw a ha j hj
    · rw [cf_un e] at hj
      rw [cf_un e, if_neg e]
      by_cases e2 : x = a
      · rw [e2, cf_us] at hj
        rw [e2, cf_us, if_pos rfl]
        exact hw b hb j hj
      · rw [cf_un e2] at hj
        rw [cf_un e2, if_neg e2]
        exact hw x hx j hj
end
section
/-! numbers -/
theorem cf_ix {a b : Nat} (h : a + b < 2 ^ 31) : (nI a + nI b).toNatClampNeg = a + b := by rw [nI_add, nI_clamp h]
theorem cf_ii {a b N : Nat} (h : a + b < N) (hN : N < 2 ^ 31) : vp_in (nI a + nI b) N := by rw [nI_add]; exact vp_in_nI h hN
theorem cf_16 (h : Nat) : (16 : Int32) * nI h = nI (16 * h) := pk_mul 16 h
theorem cf_iy {h j : Nat} (e : 16 * h + j < 2 ^ 31) : ((16 : Int32) * nI h + nI j).toNatClampNeg = 16 * h + j := by rw [cf_16]; exact cf_ix e
theorem cf_iyi {h j : Nat} (e : 16 * h + j < 1024) : vp_in ((16 : Int32) * nI h + nI j) 1024 := by rw [cf_16]; exact cf_ii e (by decide)
theorem cf_sl : ∀ k, k < 4 → (2 : Int32) <<< (nI k &&& 31) = nI (cf_wd k) := by decide
theorem cf_sr : ∀ k, k < 4 → (8 : Int32) >>> (nI k &&& 31) = nI (cf_pr k) := by decide
theorem cf_kd0 {n : Nat} (h : n ≤ 2) : cf_kd n = 0 := by unfold cf_kd; rw [if_pos h]
theorem cf_kd1 {n : Nat} (h : 2 < n) (h2 : n ≤ 4) : cf_kd n = 1 := by unfold cf_kd; rw [if_neg (by omega), if_pos h2]
theorem cf_kd2 {n : Nat} (h : 4 < n) (h2 : n ≤ 8) : cf_kd n = 2 := by unfold cf_kd; rw [if_neg (by omega), if_neg (by omega), if_pos h2]
theorem cf_kd3 {n : Nat} (h : 8 < n) : cf_kd n = 3 := by unfold cf_kd; rw [if_neg (by omega), if_neg (by omega), if_neg (by omega)]
/-! what an argument can be -/
theorem cf_sizes (x : Int32) : (∃ n, 1 ≤ n ∧ n ≤ 16 ∧ x = nI n) ∨ (x < 1 ∨ 16 < x) := by
  rcases pk_ix x (n := 17) (by decide) with h | h | ⟨j, hj, rfl⟩
  · exact Or.inr (Or.inl (Int32.lt_trans h (by decide)))
  · exact Or.inr (Or.inr (Int32.lt_of_lt_of_le (by decide) h))
  · by_cases e : j = 0
    · rw [e]; exact Or.inr (Or.inl (by decide))
    · exact Or.inl ⟨j, by omega, by omega, rfl⟩
theorem cf_kinds (x : Int32) : (∃ k, k < 4 ∧ x = nI k) ∨ (x < 0 ∨ 4 ≤ x) := by
  rcases pk_ix x (n := 4) (by decide) with h | h | ⟨j, hj, rfl⟩
  · exact Or.inr (Or.inl h)
  · exact Or.inr (Or.inr h)
  · exact Or.inl ⟨j, hj, rfl⟩
def cf_bad (z : Nat → Nat) (x : Int32) : Prop := x < 0 ∨ 64 ≤ x ∨ ∃ h, h < 64 ∧ z h = 0 ∧ x = nI h
theorem cf_goods (z : Nat → Nat) (x : Int32) : (∃ h, h < 64 ∧ 0 < z h ∧ x = nI h) ∨ cf_bad z x := by
  rcases pk_ix x (n := 64) (by decide) with h | h | ⟨j, hj, rfl⟩
  · exact Or.inr (Or.inl h)
  · exact Or.inr (Or.inr (Or.inl h))
  · by_cases e : z j = 0
    · exact Or.inr (Or.inr (Or.inr ⟨j, hj, e, rfl⟩))
    · exact Or.inl ⟨j, hj, by omega, rfl⟩
theorem cf_words (n : Nat) (hn : n ≤ 16) (x : Int32) : (∃ j, j < n ∧ x = nI j) ∨ (x < 0 ∨ nI n ≤ x) := by
  rcases pk_ix x (n := n) (by omega) with h | h | ⟨j, hj, rfl⟩
  · exact Or.inr (Or.inl h)
  · exact Or.inr (Or.inr h)
  · exact Or.inl ⟨j, hj, rfl⟩
/-! the component's small methods -/
theorem cf_xsize_t {post : Int32 → Prop} {n : Nat} (h1 : 1 ≤ n) (h2 : n ≤ 16) (hp : post 1) : wpX_isSize post (nI n) :=
  br_f (nI_nlt (b := 1) h1 (by omega)) (br_f (nI_nlt (a := 16) h2 (by decide)) hp)
theorem cf_xsize_f {post : Int32 → Prop} {x : Int32} (h : x < 1 ∨ 16 < x) (hp : post 0) : wpX_isSize post x :=
  br_c (fun _ => hp) (fun n => br_t (h.resolve_left n) hp)
theorem cf_xkind {post : Int32 → Prop} {n : Nat} (hn : n ≤ 16) (hp : post (nI (cf_kd n))) : wpX_kindOf post (nI n) := by
  unfold wpX_kindOf
  refine pk_lt 2 n (fun a => pk_lt 4 n (fun b => pk_lt 8 n (fun c => ?_) (fun c => ?_)) (fun b => ?_)) (fun a => ?_)
  · rw [cf_kd3 c] at hp; exact hp
  · rw [cf_kd2 b c] at hp; exact hp
  · rw [cf_kd1 a b] at hp; exact hp
  · rw [cf_kd0 a] at hp; exact hp
theorem cf_xisk_t {post : Int32 → Prop} {k : Nat} (hk : k < 4) (hp : post 1) : wpX_isKind post (nI k) :=
  br_f (nI_pos (by omega)) (br_f (nI_ge (b := 4) hk (by decide)) hp)
theorem cf_xisk_f {post : Int32 → Prop} {x : Int32} (h : x < 0 ∨ 4 ≤ x) (hp : post 0) : wpX_isKind post x :=
  br_c (fun _ => hp) (fun n => br_t (h.resolve_left n) hp)
theorem cf_xslot {post : Int32 → Prop} {k : Nat} (hk : k < 4) (hp : post (nI (cf_wd k))) : wpX_slotWords post (nI k) := by
  unfold wpX_slotWords
  rw [cf_sl k hk]
  exact hp
theorem cf_xper {post : Int32 → Prop} {k : Nat} (hk : k < 4) (hp : post (nI (cf_pr k))) : wpX_perPage post (nI k) := by
  unfold wpX_perPage
  rw [cf_sr k hk]
  exact hp
theorem cf_pgI {n k : Nat} (hk : k < 4) (hn : n ≤ 200) : (((nI n * nI (cf_wd k)) + 16) - 1) / 16 = nI (cf_pg k n) := by
  show (((nI n * nI (cf_wd k)) + nI 16) - nI 1) / nI 16 = nI (cf_pg k n)
  rw [pk_mul, nI_add, pk_sub (by omega)]
  rcases cf_4 hk with rfl | rfl | rfl | rfl
  · rw [show cf_wd 0 = 2 from rfl, pk_div (by omega) (by decide) (by decide), cf_pg0, show (n * 2 + 16 - 1) / 16 = (n + 7) / 8 from by omega]
  · rw [show cf_wd 1 = 4 from rfl, pk_div (by omega) (by decide) (by decide), cf_pg1, show (n * 4 + 16 - 1) / 16 = (n + 3) / 4 from by omega]
  · rw [show cf_wd 2 = 8 from rfl, pk_div (by omega) (by decide) (by decide), cf_pg2, show (n * 8 + 16 - 1) / 16 = (n + 1) / 2 from by omega]
  · rw [show cf_wd 3 = 16 from rfl, pk_div (by omega) (by decide) (by decide), cf_pg3, show (n * 16 + 16 - 1) / 16 = n from by omega]
theorem cf_xpg {post : Int32 → Prop} {n k : Nat} (hk : k < 4) (hn : n ≤ 200) (hp : post (nI (cf_pg k n))) : wpX_pagesFor post (nI n) (nI k) := by
  unfold wpX_pagesFor
  refine cf_xslot hk ⟨by decide, ?_⟩
  rw [cf_pgI hk hn]
  exact hp
abbrev cf_S (f0 : Int32) (w Ho : Nat → Int32) (z p : Nat → Nat) (Pk sp : Nat → Int32) : SX := (f0, w, Ho, fun j => nI (z j), fun j => nI (p j), Pk, sp)
section
variable {f0 : Int32} {w Ho : Nat → Int32} {z p : Nat → Nat} {Pk sp : Nat → Int32}
theorem cf_szI {h : Nat} (hh : h < 64) : (fun j => nI (z j)) (nI h).toNatClampNeg = nI (z h) := by
  show nI (z (nI h).toNatClampNeg) = nI (z h)
  rw [nI_clamp (by omega)]
theorem cf_xgood_t {post : Int32 → Prop} {h : Nat} (hh : h < 64) (lh : 0 < z h) (hz : ∀ j, z j ≤ 16) (hp : post 1) : wpX_isGood post (cf_S f0 w Ho z p Pk sp) (nI h) := by
  have l16 := hz h
  exact br_f (nI_pos (by omega)) (br_f (nI_ge (b := 64) hh (by decide)) ⟨vp_in_nI hh (by decide), br_f (by rw [nI_clamp (by omega)]; exact nI_nle lh (by omega)) hp⟩)
theorem cf_xgood_f {post : Int32 → Prop} {x : Int32} (h : cf_bad z x) (hp : post 0) : wpX_isGood post (cf_S f0 w Ho z p Pk sp) x := by
  refine br_c (fun _ => hp) (fun n1 => br_c (fun _ => hp) (fun n2 => ?_))
  rcases h with h | h | ⟨j, hj, ej, rfl⟩
  · exact absurd h n1
  · exact absurd h n2
  · refine ⟨vp_in_nI hj (by decide), br_t ?_ hp⟩
    rw [nI_clamp (by omega)]
    show nI (z j) ≤ 0
    rw [ej]
    decide
theorem cf_xword_t {post : Int32 → Prop} {h j : Nat} (hh : h < 64) (hz : ∀ j, z j ≤ 16) (hj : j < z h) (hp : post 1) : wpX_isWordOf post (cf_S f0 w Ho z p Pk sp) (nI h) (nI j) := by
  have l16 := hz h
  exact br_f (nI_pos (by omega)) ⟨vp_in_nI hh (by decide), br_f (by rw [nI_clamp (by omega)]; exact nI_ge hj (by omega)) hp⟩
theorem cf_xword_f {post : Int32 → Prop} {h : Nat} {x : Int32} (hh : h < 64) (hx : x < 0 ∨ nI (z h) ≤ x) (hp : post 0) : wpX_isWordOf post (cf_S f0 w Ho z p Pk sp) (nI h) x := by
  refine br_c (fun _ => hp) (fun n1 => ⟨vp_in_nI hh (by decide), br_t ?_ hp⟩)
  rw [nI_clamp (by omega)]
  exact hx.resolve_left n1
theorem cf_xlf_t {post : Int32 → Prop} {h : Nat} (hh : h < 64) (h0 : z h = 0) (hz : ∀ j, z j ≤ 16) (hl : ∀ j, j < h → z j ≠ 0) (hp : post (nI h)) : wpX_leastFreeHandle post (cf_S f0 w Ho z p Pk sp) := by
  have key : ∀ d i : Nat, i + d = h → wX_leastFreeHandle_2 post f0 w Ho (fun j => nI (z j)) (fun j => nI (p j)) Pk sp (d + 1) (nI i) := by
    intro d
    induction d with
    | zero =>
      intro i hi
      have e : i = h := by omega
      rw [e]
      refine br_f (nI_ge (b := 64) hh (by decide)) ⟨vp_in_nI hh (by decide), br_t ?_ hp⟩
      rw [nI_clamp (by omega)]
      show nI (z h) = 0
      rw [h0]
      rfl
    | succ d ih =>
      intro i hi
      have l16 := hz i
      have n0 := hl i (by omega)
      refine br_f (nI_ge (b := 64) (by omega) (by decide)) ⟨vp_in_nI (by omega) (by decide), br_f ?_ (nm_r (nI_1 i) (ih (i + 1) (by omega)))⟩
      rw [nI_clamp (by omega)]
      exact nI_ne0 (n := z i) (by omega) (by omega)
  exact ⟨h + 1, key h 0 (by omega)⟩
theorem cf_xlf_f {post : Int32 → Prop} (hz : ∀ j, z j ≤ 16) (hl : ∀ j, j < 64 → z j ≠ 0) (hp : post (-1)) : wpX_leastFreeHandle post (cf_S f0 w Ho z p Pk sp) := by
  have key : ∀ d i : Nat, i + d = 64 → wX_leastFreeHandle_2 post f0 w Ho (fun j => nI (z j)) (fun j => nI (p j)) Pk sp (d + 1) (nI i) := by
    intro d
    induction d with
    | zero =>
      intro i hi
      exact br_t (nI_le (a := 64) (by omega) (by omega)) hp
    | succ d ih =>
      intro i hi
      have l16 := hz i
      have n0 := hl i (by omega)
      refine br_f (nI_ge (b := 64) (by omega) (by decide)) ⟨vp_in_nI (by omega) (by decide), br_f ?_ (nm_r (nI_1 i) (ih (i + 1) (by omega)))⟩
      rw [nI_clamp (by omega)]
      exact nI_ne0 (n := z i) (by omega) (by omega)
  exact ⟨65, key 64 0 rfl⟩
theorem cf_xok_t {post : Int32 → Prop} {h k : Nat} (hh : h < 64) (hz : ∀ j, z j ≤ 16) (e : 0 < z h ∧ cf_kd (z h) = k) (hp : post 1) : wpX_isOfKind post (cf_S f0 w Ho z p Pk sp) (nI h) (nI k) := by
  have l16 := hz h
  refine ⟨vp_in_nI hh (by decide), nm_r (cf_szI hh) (br_f (nI_nle e.1 (by omega)) (cf_xkind l16 (br_t ?_ hp)))⟩
  rw [e.2]
theorem cf_xok_f {post : Int32 → Prop} {h k : Nat} (hh : h < 64) (hz : ∀ j, z j ≤ 16) (hk : k < 4) (e : ¬ (0 < z h ∧ cf_kd (z h) = k)) (hp : post 0) : wpX_isOfKind post (cf_S f0 w Ho z p Pk sp) (nI h) (nI k) := by
  have l16 := hz h
  have k4 := cf_kd4 (z h)
  refine ⟨vp_in_nI hh (by decide), nm_r (cf_szI hh) (br_c (fun _ => hp) (fun n => cf_xkind l16 (br_f ?_ hp)))⟩
  intro ek
  refine e ⟨?_, cf_inj (by omega) (by omega) ek⟩
  by_cases e0 : z h = 0
  · rw [e0] at n
    exact absurd (by decide) n
  · omega
theorem cf_xobj {post : Int32 → Prop} {k : Nat} (hk : k < 4) (hz : ∀ j, z j ≤ 16) (hp : post (nI (cf_nk z k))) : wpX_objectsOf post (cf_S f0 w Ho z p Pk sp) (nI k) := by
  have key : ∀ d i : Nat, i + d = 64 → wX_objectsOf_4 post (nI k) f0 w Ho (fun j => nI (z j)) (fun j => nI (p j)) Pk sp (d + 1) (nI (cf_cn (fun h => 0 < z h ∧ cf_kd (z h) = k) i)) (nI i) := by
    intro d
    induction d with
    | zero =>
      intro i hi
      have e : i = 64 := by omega
      subst e
      exact br_t (nI_le (a := 64) (by omega) (by omega)) hp
    | succ d ih =>
      intro i hi
      have t := ih (i + 1) (by omega)
      rw [cf_cn_s] at t
      refine br_f (nI_ge (b := 64) (by omega) (by decide)) ?_
      by_cases e : 0 < z i ∧ cf_kd (z i) = k
      · rw [cf_bt e] at t
        exact cf_xok_t (by omega) hz e (br_f (by decide) (nm_r (nI_1 _) (nm_r (nI_1 i) t)))
      · rw [cf_bf e] at t
        exact cf_xok_f (by omega) hz hk e (br_t rfl (nm_r (nI_1 i) t))
  exact ⟨65, key 64 0 rfl⟩
def cf_am (x : Int32) (c m : Nat) : Nat := if x = nI c then m else 0
theorem cf_am_k {k c m : Nat} (hk : k < 4) (hc : c < 4) : cf_am (nI k) c m = if c = k then m else 0 := by
  unfold cf_am
  by_cases e : c = k
  · rw [e, if_pos rfl, if_pos rfl]
  · rw [if_neg e, if_neg (fun q => e (cf_inj (by omega) (by omega) q).symm)]
theorem cf_am_m {c m : Nat} (hc : c < 4) : cf_am (-1) c m = 0 := if_neg (fun q => cf_nm1 (by omega) q.symm)
theorem cf_nd_sm (f : Nat → Nat) : cf_sm (fun c => cf_pg c (f c)) 4 = cf_nd f := by
  show 0 + cf_pg 0 (f 0) + cf_pg 1 (f 1) + cf_pg 2 (f 2) + cf_pg 3 (f 3) = cf_nd f
  rw [Nat.zero_add]
  rfl
theorem cf_xneed {post : Int32 → Prop} {x1 x2 : Int32} (hz : ∀ j, z j ≤ 16) (h2 : ∀ c, c < 4 → x2 = nI c → 1 ≤ cf_nk z c)
    (hp : post (nI (cf_nd (fun c => cf_nk z c + cf_am x1 c 1 - cf_am x2 c 1)))) : wpX_neededAfter post (cf_S f0 w Ho z p Pk sp) x1 x2 := by
  rw [← cf_nd_sm] at hp
  have key : ∀ d i : Nat, i + d = 4 → wX_neededAfter_5 post x1 x2 f0 w Ho (fun j => nI (z j)) (fun j => nI (p j)) Pk sp (d + 1) (nI (cf_sm (fun c => cf_pg c (cf_nk z c + cf_am x1 c 1 - cf_am x2 c 1)) i)) (nI i) := by
    intro d
    induction d with
    | zero =>
      intro i hi
      have e : i = 4 := by omega
      subst e
      exact br_t (nI_le (a := 4) (by omega) (by omega)) hp
    | succ d ih =>
      intro i hi
      have t := ih (i + 1) (by omega)
      rw [cf_sm_s] at t
      have n64 := cf_nk64 z i
      refine br_f (nI_ge (b := 4) (by omega) (by decide)) (cf_xobj (by omega) hz ?_)
      have s37 : ∀ m, m ≤ 200 → m = cf_nk z i + cf_am x1 i 1 - cf_am x2 i 1 → wX_neededAfter_37 post (wX_neededAfter_5 post x1 x2 f0 w Ho (fun j => nI (z j)) (fun j => nI (p j)) Pk sp (d + 1)) x1 x2 (nI (cf_sm (fun c => cf_pg c (cf_nk z c + cf_am x1 c 1 - cf_am x2 c 1)) i)) (nI i) (nI m) f0 w Ho (fun j => nI (z j)) (fun j => nI (p j)) Pk sp := by
        intro m hm em
        unfold wX_neededAfter_37
        refine cf_xpg (by omega) hm (nm_r (nI_add _ _) (nm_r (nI_1 i) ?_))
        rw [em]
        exact t
      have s28 : ∀ m, m ≤ 199 → m = cf_nk z i + cf_am x1 i 1 → wX_neededAfter_28 post (wX_neededAfter_5 post x1 x2 f0 w Ho (fun j => nI (z j)) (fun j => nI (p j)) Pk sp (d + 1)) x1 x2 (nI (cf_sm (fun c => cf_pg c (cf_nk z c + cf_am x1 c 1 - cf_am x2 c 1)) i)) (nI i) (nI m) f0 w Ho (fun j => nI (z j)) (fun j => nI (p j)) Pk sp := by
        intro m hm em
        refine br_c (fun a => ?_) (fun a => ?_)
        · have g := h2 i (by omega) a.symm
          obtain ⟨m', rfl⟩ : ∃ m', m = m' + 1 := ⟨m - 1, by omega⟩
          refine nm_r (pk_m1 m') (s37 m' (by omega) ?_)
          have e2 : cf_am x2 i 1 = 1 := if_pos a.symm
          omega
        · have e2 : cf_am x2 i 1 = 0 := if_neg (fun b => a b.symm)
          exact s37 m (by omega) (by omega)
      refine br_c (fun a => ?_) (fun a => ?_)
      · have e1 : cf_am x1 i 1 = 1 := if_pos a.symm
        exact nm_r (nI_1 _) (s28 _ (by omega) (by omega))
      · have e1 : cf_am x1 i 1 = 0 := if_neg (fun b => a b.symm)
        exact s28 _ (by omega) (by omega)
  exact ⟨5, key 4 0 rfl⟩
end
end
section
section
variable {f0 : Int32} {w Ho : Nat → Int32} {z p : Nat → Nat} {Pk sp : Nat → Int32}
theorem cf_m16 (g : Nat) : nI g * 16 = nI (16 * g) := by
  show nI g * nI 16 = nI (16 * g)
  rw [pk_mul, Nat.mul_comm]
theorem cf_p16t {a i : Nat} (h : a + 16 ≤ i) (hi : i < 2 ^ 31) : nI a + 16 ≤ nI i := by
  show nI a + nI 16 ≤ nI i
  rw [nI_add]
  exact nI_le h hi
theorem cf_p16f {a i : Nat} (h : i < a + 16) (ha : a + 16 < 2 ^ 31) : ¬ nI a + 16 ≤ nI i := by
  show ¬ nI a + nI 16 ≤ nI i
  rw [nI_add]
  exact nI_ge h ha
theorem cf_xheld {post : Int32 → Prop} {g : Nat} (hg : g < 12) (hp : post (nI (cf_hl Ho g))) : wpX_heldOn post (cf_S f0 w Ho z p Pk sp) (nI g) := by
  have key : ∀ d i : Nat, i + d = 16 → wX_heldOn_10 post (nI (16 * g)) f0 w Ho (fun j => nI (z j)) (fun j => nI (p j)) Pk sp (d + 1) (nI (cf_cn (fun i => Ho (16 * g + i) ≠ -1) i)) (nI (16 * g + i)) := by
    intro d
    induction d with
    | zero =>
      intro i hi
      have e : i = 16 := by omega
      subst e
      exact br_t (cf_p16t (by omega) (by omega)) hp
    | succ d ih =>
      intro i hi
      have t := ih (i + 1) (by omega)
      rw [cf_cn_s, ← Nat.add_assoc] at t
      refine br_f (cf_p16f (by omega) (by omega)) ⟨vp_in_nI (by omega) (by decide), ?_⟩
      rw [nI_clamp (by omega)]
      by_cases e : Ho (16 * g + i) = -1
      · rw [cf_bf (fun n => n e)] at t
        exact br_t e (nm_r (nI_1 _) t)
      · rw [cf_bt e] at t
        exact br_f e (nm_r (nI_1 _) (nm_r (nI_1 _) t))
  exact nm_r (cf_m16 g) ⟨17, key 16 0 rfl⟩
theorem cf_xpart_t {post : Int32 → Prop} {g k : Nat} (hg : g < 12) (hk : k < 4) (e : Pk g = nI k ∧ cf_hl Ho g < cf_pr k) (hp : post 1) : wpX_isPart post (cf_S f0 w Ho z p Pk sp) (nI g) (nI k) := by
  have a := cf_pr8 hk
  refine ⟨vp_in_nI hg (by decide), br_t ?_ (cf_xheld hg (cf_xper hk (br_f ?_ hp)))⟩
  · rw [nI_clamp (by omega)]; exact e.1
  · exact nI_ge e.2 (by omega)
theorem cf_xpart_f {post : Int32 → Prop} {g k : Nat} (hg : g < 12) (hk : k < 4) (e : ¬ (Pk g = nI k ∧ cf_hl Ho g < cf_pr k)) (hp : post 0) : wpX_isPart post (cf_S f0 w Ho z p Pk sp) (nI g) (nI k) := by
  have a := cf_pr8 hk
  have b : cf_hl Ho g ≤ 16 := cf_cn_le _ _
  refine ⟨vp_in_nI hg (by decide), br_c (fun c => cf_xheld hg (cf_xper hk (br_t ?_ hp))) (fun _ => hp)⟩
  rw [nI_clamp (by omega)] at c
  exact nI_le (by
    by_cases l : cf_hl Ho g < cf_pr k
    · exact absurd ⟨c, l⟩ e
    · omega) (by omega)
theorem cf_xpp_t {post : Int32 → Prop} {P g k : Nat} {x : Int32} (hP : P ≤ 12) (hk : k < 4) (hg : g < P) (nx : nI g ≠ x) (e : Pk g = nI k ∧ cf_hl Ho g < cf_pr k)
    (hl : ∀ j, j < g → ¬ (nI j ≠ x ∧ Pk j = nI k ∧ cf_hl Ho j < cf_pr k)) (hp : post (nI g)) : wpX_partPage post (cf_S (nI P) w Ho z p Pk sp) (nI k) x := by
  have key : ∀ d i : Nat, i + d = g → wX_partPage_2 post (nI k) x (nI P) w Ho (fun j => nI (z j)) (fun j => nI (p j)) Pk sp (d + 1) (nI i) := by
    intro d
    induction d with
    | zero =>
      intro i hi
      have e0 : i = g := by omega
      rw [e0]
      exact br_f (nI_ge hg (by omega)) (br_f nx (cf_xpart_t (by omega) hk e (br_f (by decide) hp)))
    | succ d ih =>
      intro i hi
      have t := ih (i + 1) (by omega)
      refine br_f (nI_ge (by omega) (by omega)) (br_c (fun _ => nm_r (nI_1 i) t) (fun ne => ?_))
      exact cf_xpart_f (by omega) hk (fun q => hl i (by omega) ⟨ne, q⟩) (br_t rfl (nm_r (nI_1 i) t))
  exact ⟨g + 1, key g 0 (by omega)⟩
theorem cf_xpp_f {post : Int32 → Prop} {P k : Nat} {x : Int32} (hP : P ≤ 12) (hk : k < 4)
    (hl : ∀ j, j < P → ¬ (nI j ≠ x ∧ Pk j = nI k ∧ cf_hl Ho j < cf_pr k)) (hp : post (-1)) : wpX_partPage post (cf_S (nI P) w Ho z p Pk sp) (nI k) x := by
  have key : ∀ d i : Nat, i + d = P → wX_partPage_2 post (nI k) x (nI P) w Ho (fun j => nI (z j)) (fun j => nI (p j)) Pk sp (d + 1) (nI i) := by
    intro d
    induction d with
    | zero =>
      intro i hi
      exact br_t (nI_le (by omega) (by omega)) hp
    | succ d ih =>
      intro i hi
      have t := ih (i + 1) (by omega)
      refine br_f (nI_ge (by omega) (by omega)) (br_c (fun _ => nm_r (nI_1 i) t) (fun ne => ?_))
      exact cf_xpart_f (by omega) hk (fun q => hl i (by omega) ⟨ne, q⟩) (br_t rfl (nm_r (nI_1 i) t))
  exact ⟨P + 1, key P 0 (by omega)⟩
theorem cf_xun {post : Int32 → Prop} {P g : Nat} (hP : P ≤ 12) (hg : g < P) (e : Pk g = -1) (hl : ∀ j, j < g → Pk j ≠ -1) (hp : post (nI g)) : wpX_unusedPage post (cf_S (nI P) w Ho z p Pk sp) := by
  have key : ∀ d i : Nat, i + d = g → wX_unusedPage_2 post (nI P) w Ho (fun j => nI (z j)) (fun j => nI (p j)) Pk sp (d + 1) (nI i) := by
    intro d
    induction d with
    | zero =>
      intro i hi
      have e0 : i = g := by omega
      rw [e0]
      refine br_f (nI_ge hg (by omega)) ⟨vp_in_nI (by omega) (by decide), br_t ?_ hp⟩
      rw [nI_clamp (by omega)]
      exact e
    | succ d ih =>
      intro i hi
      have t := ih (i + 1) (by omega)
      refine br_f (nI_ge (by omega) (by omega)) ⟨vp_in_nI (by omega) (by decide), br_f ?_ (nm_r (nI_1 i) t)⟩
      rw [nI_clamp (by omega)]
      exact hl i (by omega)
  exact ⟨g + 1, key g 0 (by omega)⟩
theorem cf_xhole {post : Int32 → Prop} {g k s : Nat} (hg : g < 12) (hk : k < 4) (hs : s < cf_pr k) (fs : Ho (16 * g + s * cf_wd k) = -1) (hl : ∀ j, j < s → Ho (16 * g + j * cf_wd k) ≠ -1)
    (hp : post (nI (16 * g + s * cf_wd k))) : wpX_holeOn post (cf_S f0 w Ho z p Pk sp) (nI g) (nI k) := by
  have a := cf_pr8 hk
  have hw : ∀ j, j < cf_pr k → 16 * g + j * cf_wd k < 192 := by
    intro j hj
    rcases cf_4 hk with rfl | rfl | rfl | rfl
    · rw [show cf_pr 0 = 8 from rfl] at hj; rw [show cf_wd 0 = 2 from rfl]; omega
    · rw [show cf_pr 1 = 4 from rfl] at hj; rw [show cf_wd 1 = 4 from rfl]; omega
    · rw [show cf_pr 2 = 2 from rfl] at hj; rw [show cf_wd 2 = 8 from rfl]; omega
    · rw [show cf_pr 3 = 1 from rfl] at hj; rw [show cf_wd 3 = 16 from rfl]; omega
  have ei : ∀ i, nI (16 * g) + nI i * nI (cf_wd k) = nI (16 * g + i * cf_wd k) := by
    intro i
    rw [pk_mul, nI_add]
  have key : ∀ d i : Nat, i + d = s → ∀ x6 : Int32, wX_holeOn_23 post (nI (16 * g)) (nI (cf_wd k)) (nI (cf_pr k)) f0 w Ho (fun j => nI (z j)) (fun j => nI (p j)) Pk sp (d + 1) x6 (nI i) := by
    intro d
    induction d with
    | zero =>
      intro i hi x6
      have e0 : i = s := by omega
      rw [e0]
      have b := hw s hs
      refine br_f (nI_ge hs (by omega)) (nm_r (ei s) ⟨vp_in_nI b (by decide), br_t ?_ hp⟩)
      rw [nI_clamp (by omega)]
      exact fs
    | succ d ih =>
      intro i hi x6
      have t := ih (i + 1) (by omega)
      have b := hw i (by omega)
      refine br_f (nI_ge (by omega) (by omega)) (nm_r (ei i) ⟨vp_in_nI b (by decide), br_f ?_ (nm_r (nI_1 i) (t _))⟩)
      rw [nI_clamp (by omega)]
      exact hl i (by omega)
  exact nm_r (cf_m16 g) (cf_xslot hk (cf_xper hk ⟨s + 1, key s 0 (by omega) _⟩))
theorem cf_xput {post : SX → Prop} {h q : Nat} (hh : h < 64) (hq : q < 192) (hp : post (cf_S f0 w (upd Ho q (nI h)) z (cf_u p h q) Pk sp)) : wpX_putAt post (cf_S f0 w Ho z p Pk sp) (nI h) (nI q) := by
  refine ⟨vp_in_nI hh (by decide), nm_r (e' := fun j => nI (cf_u p h q j)) ?_ ⟨vp_in_nI hq (by decide), nm_r (e' := upd Ho q (nI h)) ?_ hp⟩⟩
  · rw [nI_clamp (by omega), cf_uI]
  · rw [nI_clamp (by omega)]
theorem cf_xs25 {post : SX → Prop} {h n g k s : Nat} (hh : h < 64) (hg : g < 12) (hk : k < 4) (hs : s < cf_pr k) (fs : Ho (16 * g + s * cf_wd k) = -1) (hl : ∀ j, j < s → Ho (16 * g + j * cf_wd k) ≠ -1)
    (hq : 16 * g + s * cf_wd k < 192)
    (hp : post (cf_S f0 w (upd Ho (16 * g + s * cf_wd k) (nI h)) (cf_u z h n) (cf_u p h (16 * g + s * cf_wd k)) (upd Pk g (nI k)) sp)) :
    wX_settle_25 post (nI h) (nI n) (nI k) (nI g) f0 w Ho (fun j => nI (z j)) (fun j => nI (p j)) Pk sp := by
  refine br_f (cf_nm1 (by omega)) ⟨vp_in_nI hg (by decide), nm_r (e' := upd Pk g (nI k)) ?_ ⟨vp_in_nI hh (by decide), nm_r (e' := fun j => nI (cf_u z h n j)) ?_ (cf_xhole hg hk hs fs hl (cf_xput hh hq hp))⟩⟩
  · rw [nI_clamp (by omega)]
  · rw [nI_clamp (by omega), cf_uI]
end
theorem cf_xsettle {post : SX → Prop} {P : Nat} {z p : Nat → Nat} {c : Nat → Nat → Int32} {w Ho Pk sp : Nat → Int32} (X : cf_X P z p c w Ho Pk) {h n : Nat} (hh : h < 64) (dh : z h = 0) (n1 : 0 < n) (n16 : n ≤ 16)
    (hn : cf_nd (fun c => cf_nk z c + if c = cf_kd n then 1 else 0) ≤ P)
    (hp : ∀ q Ho' Pk', cf_X P (cf_u z h n) (cf_u p h q) (fun y j => if y = h then w (q + j) else c y j) w Ho' Pk' → post (cf_S (nI P) w Ho' (cf_u z h n) (cf_u p h q) Pk' sp)) :
    wpX_settle post (cf_S (nI P) w Ho z p Pk sp) (nI h) (nI n) := by
  have X0 := X
  obtain ⟨h1, h2, hz, hpl, J, D, hw⟩ := X0
  have k4 := cf_kd4 n
  have fin : ∀ g, g < P → ((Pk g = nI (cf_kd n) ∧ cf_hl Ho g < cf_pr (cf_kd n)) ∨ (Pk g = -1 ∧ ∀ g', g' < P → Pk g' = nI (cf_kd n) → ¬ cf_hl Ho g' < cf_pr (cf_kd n))) →
      wX_settle_25 post (nI h) (nI n) (nI (cf_kd n)) (nI g) (nI P) w Ho (fun j => nI (z j)) (fun j => nI (p j)) Pk sp := by
    intro g hg hc
    have hl : cf_hl Ho g < cf_pr (cf_kd n) := by
      rcases hc with ⟨-, b⟩ | ⟨a, -⟩
      · exact b
      · rw [cf_h0 J (by omega) a]; have := cf_pr8 k4; omega
    obtain ⟨s, ⟨hs, fs⟩, ls⟩ := pk_least (fun s => s < cf_pr (cf_kd n) ∧ Ho (16 * g + s * cf_wd (cf_kd n)) = -1) (cf_hole k4 hl)
    have Y := cf_set X hh dh n1 n16 hg hs fs hc
    have q192 : 16 * g + s * cf_wd (cf_kd n) < 192 := by
      have := Y.2.2.2.1 h
      rw [cf_us] at this
      exact this
    exact cf_xs25 hh (by omega) k4 hs fs (fun j hj e => ls j hj ⟨by omega, e⟩) q192 (hp _ _ _ Y)
  unfold wpX_settle
  dsimp only
  refine cf_xkind n16 ?_
  by_cases e : ∃ g, g < P ∧ Pk g = nI (cf_kd n) ∧ cf_hl Ho g < cf_pr (cf_kd n)
  · obtain ⟨g, ⟨hg, eg, lg⟩, ls⟩ := pk_least _ e
    refine cf_xpp_t h2 k4 hg (cf_nm1 (by omega)) ⟨eg, lg⟩ (fun j hj q => ls j hj ⟨by omega, q.2⟩) ?_
    exact br_f (cf_nm1 (by omega)) (fin g hg (Or.inl ⟨eg, lg⟩))
  · have ne : ∀ g, g < P → Pk g = nI (cf_kd n) → ¬ cf_hl Ho g < cf_pr (cf_kd n) := fun g hg eg lg => e ⟨g, hg, eg, lg⟩
    refine cf_xpp_f h2 k4 (fun j hj q => e ⟨j, hj, q.2⟩) (br_t rfl ?_)
    by_cases u : ∃ g, g < P ∧ Pk g = -1
    · obtain ⟨g, ⟨hg, eg⟩, ls⟩ := pk_least _ u
      exact cf_xun h2 hg eg (fun j hj q => ls j hj ⟨by omega, q⟩) (fin g hg (Or.inr ⟨eg, ne⟩))
    · exact (cf_find J D h2 k4 hn ne (fun g hg q => u ⟨g, hg, q⟩)).elim
section
variable {f0 : Int32} {w Ho : Nat → Int32} {z p : Nat → Nat} {Pk sp : Nat → Int32}
theorem cf_xrest {post : SX → Prop} {h m : Nat} (hh : h < 64) (hm : m ≤ 16) (hz : z h ≤ 16) (hq : p h + z h ≤ 192)
    (hp : post (cf_S f0 (cf_wr w (p h) (fun k => if k < m then sp k else 0) (z h)) Ho z p Pk sp)) : wpX_restoreWords post (cf_S f0 w Ho z p Pk sp) (nI h) (nI m) := by
  have key : ∀ d i : Nat, i + d = z h → wX_restoreWords_18 post (nI m) (nI (z h)) (nI (p h)) f0 (d + 1) (nI i) (cf_wr w (p h) (fun k => if k < m then sp k else 0) i) Ho (fun j => nI (z j)) (fun j => nI (p j)) Pk sp := by
    intro d
    induction d with
    | zero =>
      intro i hi
      have e : i = z h := by omega
      rw [e]
      exact br_t (nI_le (Nat.le_refl _) (by omega)) hp
    | succ d ih =>
      intro i hi
      have t := ih (i + 1) (by omega)
      rw [← cf_wr_s] at t
      refine br_f (nI_ge (by omega) (by omega)) (br_c (fun a => ?_) (fun a => ?_))
      · have b : m ≤ i := (nI_leI (by omega) (by omega)).mp a
        refine ⟨cf_ii (by omega) (by decide), nm_r ?_ (nm_r (nI_1 i) t)⟩
        rw [cf_ix (by omega), if_neg (by omega)]
      · have b : i < m := by
          by_cases l : m ≤ i
          · exact absurd (nI_le l (by omega)) a
          · omega
        refine ⟨vp_in_nI (by omega) (by decide), cf_ii (by omega) (by decide), nm_r ?_ (nm_r (nI_1 i) t)⟩
        rw [cf_ix (by omega), if_pos b, nI_clamp (by omega)]
  have k0 := key (z h) 0 (by omega)
  rw [cf_wr_0] at k0
  exact ⟨vp_in_nI hh (by decide), nm_r (cf_szI hh) ⟨vp_in_nI hh (by decide), nm_r (cf_szI (z := p) hh) ⟨z h + 1, k0⟩⟩⟩
theorem cf_xcopyw {post : SX → Prop} {a b n : Nat} (ha : a + n ≤ 192) (hb : b + n ≤ 192) (hd : ∀ i j, i < n → j < n → a + i ≠ b + j)
    (hp : post (cf_S f0 (cf_wr w b (fun k => w (a + k)) n) Ho z p Pk sp)) : wpX_copyWords post (cf_S f0 w Ho z p Pk sp) (nI a) (nI b) (nI n) := by
  have key : ∀ d i : Nat, i + d = n → wX_copyWords_3 post (nI a) (nI b) (nI n) f0 (d + 1) (nI i) (cf_wr w b (fun k => w (a + k)) i) Ho (fun j => nI (z j)) (fun j => nI (p j)) Pk sp := by
    intro d
    induction d with
    | zero =>
      intro i hi
      have e : i = n := by omega
      rw [e]
      exact br_t (nI_le (Nat.le_refl _) (by omega)) hp
    | succ d ih =>
      intro i hi
      have t := ih (i + 1) (by omega)
      rw [← cf_wr_s] at t
      refine br_f (nI_ge (by omega) (by omega)) ⟨cf_ii (by omega) (by decide), cf_ii (by omega) (by decide), nm_r ?_ (nm_r (nI_1 i) t)⟩
      rw [cf_ix (by omega), cf_ix (by omega), cf_wr_out (fun j hj => hd i j (by omega) (by omega))]
  have k0 := key n 0 (by omega)
  rw [cf_wr_0] at k0
  exact ⟨n + 1, k0⟩
theorem cf_xkeep {post : SX → Prop} {h : Nat} (hh : h < 64) (hz : z h ≤ 16) (hq : p h + z h ≤ 192)
    (hp : post (cf_S f0 w Ho z p Pk (cf_wr sp 0 (fun k => w (p h + k)) (z h)))) : wpX_keepWords post (cf_S f0 w Ho z p Pk sp) (nI h) := by
  have key : ∀ d i : Nat, i + d = z h → wX_keepWords_17 post (nI (z h)) (nI (p h)) f0 (d + 1) (nI i) w Ho (fun j => nI (z j)) (fun j => nI (p j)) Pk (cf_wr sp 0 (fun k => w (p h + k)) i) := by
    intro d
    induction d with
    | zero =>
      intro i hi
      have e : i = z h := by omega
      rw [e]
      exact br_t (nI_le (Nat.le_refl _) (by omega)) hp
    | succ d ih =>
      intro i hi
      have t := ih (i + 1) (by omega)
      rw [← cf_wr_s, Nat.zero_add] at t
      refine br_f (nI_ge (by omega) (by omega)) ⟨cf_ii (by omega) (by decide), vp_in_nI (by omega) (by decide), nm_r ?_ (nm_r (nI_1 i) t)⟩
      rw [cf_ix (by omega), nI_clamp (by omega)]
  have k0 := key (z h) 0 (by omega)
  rw [cf_wr_0] at k0
  exact ⟨vp_in_nI hh (by decide), nm_r (cf_szI hh) ⟨vp_in_nI hh (by decide), nm_r (cf_szI (z := p) hh) ⟨z h + 1, k0⟩⟩⟩
/-- x lies at the first place of page o that isn't empty -/
theorem cf_xmove {post : SX → Prop} {o q i x : Nat} (ho : o < 12) (hi : i < 16) (ex : Ho (16 * o + i) = nI x) (hl : ∀ j, j < i → Ho (16 * o + j) = -1) (hx : x < 64)
    (ha : 16 * o + i + z x ≤ 192) (hq : q < 192) (hb : q + z x ≤ 192) (hd : ∀ a b, a < z x → b < z x → 16 * o + i + a ≠ q + b)
    (hp : post (cf_S f0 (cf_wr w q (fun k => w (16 * o + i + k)) (z x)) (upd (upd Ho (16 * o + i) (-1)) q (nI x)) z (cf_u p x q) Pk sp)) :
    wpX_moveOneFrom post (cf_S f0 w Ho z p Pk sp) (nI o) (nI q) := by
  have key : ∀ d j : Nat, j + d = i → wX_moveOneFrom_8 post (nI q) (nI (16 * o)) f0 w Ho (fun j => nI (z j)) (fun j => nI (p j)) Pk sp (d + 1) (nI (16 * o + j)) := by
    intro d
    induction d with
    | zero =>
      intro j hj
      have e : j = i := by omega
      rw [e]
      have en : (nI x).toNatClampNeg = x := nI_clamp (by omega)
      refine br_f (cf_p16f (by omega) (by omega)) ⟨vp_in_nI (by omega) (by decide), nm_r (e' := nI x) ?_ (br_f (cf_nm1 (by omega)) ⟨vp_in_nI hx (by decide), ?_⟩)⟩
      · rw [nI_clamp (by omega)]; exact ex
      · rw [en]
        refine cf_xcopyw (n := z x) ha hb hd ⟨vp_in_nI (by omega) (by decide), nm_r (e' := upd Ho (16 * o + i) (-1)) ?_ (cf_xput hx hq hp)⟩
        rw [nI_clamp (by omega)]
    | succ d ih =>
      intro j hj
      have t := ih (j + 1) (by omega)
      rw [← Nat.add_assoc] at t
      refine br_f (cf_p16f (by omega) (by omega)) ⟨vp_in_nI (by omega) (by decide), nm_r (e' := -1) ?_ (br_t rfl (nm_r (nI_1 _) t))⟩
      rw [nI_clamp (by omega)]
      exact hl j (by omega)
  exact nm_r (cf_m16 o) ⟨i + 1, key i 0 (by omega)⟩
theorem cf_xv55_0 {post : SX → Prop} {g : Nat} (hg : g < 12) (e : cf_hl Ho g = 0) (hp : post (cf_S f0 w Ho z p (upd Pk g (-1)) sp)) :
    wX_vacate_55 post (nI g) f0 w Ho (fun j => nI (z j)) (fun j => nI (p j)) Pk sp := by
  refine cf_xheld hg (br_t ?_ ⟨vp_in_nI hg (by decide), nm_r (e' := upd Pk g (-1)) ?_ hp⟩)
  · rw [e]; rfl
  · rw [nI_clamp (by omega)]
theorem cf_xv55_1 {post : SX → Prop} {g : Nat} (hg : g < 12) (e : 0 < cf_hl Ho g) (hp : post (cf_S f0 w Ho z p Pk sp)) :
    wX_vacate_55 post (nI g) f0 w Ho (fun j => nI (z j)) (fun j => nI (p j)) Pk sp := by
  have b : cf_hl Ho g ≤ 16 := cf_cn_le _ _
  exact cf_xheld hg (br_f (nI_ne0 e (by omega)) hp)
end
theorem cf_xvac {post : SX → Prop} {P : Nat} {z p : Nat → Nat} {c : Nat → Nat → Int32} {w Ho Pk sp : Nat → Int32} (X : cf_X P z p c w Ho Pk) {h : Nat} (hh : h < 64) (lh : 0 < z h)
    (hp : ∀ p' w' Ho' Pk', cf_X P (cf_u z h 0) p' c w' Ho' Pk' → post (cf_S (nI P) w' Ho' (cf_u z h 0) p' Pk' sp)) :
    wpX_vacate post (cf_S (nI P) w Ho z p Pk sp) (nI h) := by
  have X0 := X
  obtain ⟨h1, h2, hz, hpl, J, D, hw⟩ := X0
  obtain ⟨a1, a2, a3, a4⟩ := J.1 h hh lh
  have k4 := cf_kd4 (z h)
  have g12 : p h / 16 < 12 := by omega
  have q192 := hpl h
  refine ⟨vp_in_nI hh (by decide), nm_r (cf_szI (z := p) hh) ⟨by decide, nm_r (e' := nI (p h / 16)) (pk_div (d := 16) (by omega) (by decide) (by decide)) ⟨vp_in_nI hh (by decide),
    nm_r (e' := fun j => nI (cf_u z h 0 j)) ?_ ⟨vp_in_nI q192 (by decide), nm_r (e' := upd Ho (p h) (-1)) ?_ ⟨vp_in_nI g12 (by decide), ?_⟩⟩⟩⟩⟩
  · rw [nI_clamp (by omega)]
    exact cf_uI z h 0
  · rw [nI_clamp (by omega)]
  rw [show (nI (p h / 16)).toNatClampNeg = p h / 16 from nI_clamp (by omega), a2]
  by_cases e : ∃ g, g < P ∧ nI g ≠ nI (p h / 16) ∧ Pk g = nI (cf_kd (z h)) ∧ cf_hl (upd Ho (p h) (-1)) g < cf_pr (cf_kd (z h))
  · obtain ⟨o, ⟨ho, no, ko, lo⟩, ls⟩ := pk_least _ e
    have no' : o ≠ p h / 16 := fun q => no (by rw [q])
    refine cf_xpp_t h2 k4 ho no ⟨ko, lo⟩ (fun j hj q => ls j hj ⟨by omega, q⟩) (br_f (cf_nm1 (by omega)) ?_)
    have J1 := cf_rm J hh lh
    have pos : 0 < cf_hl (upd Ho (p h) (-1)) o := by
      rw [cf_hl_o (fun q => no' q.symm)]
      exact D.1 o ho (by rw [ko]; exact cf_nm1 (by omega))
    obtain ⟨i, ⟨hi, ei⟩, li⟩ := pk_least _ (cf_cn_pos pos)
    obtain ⟨x, hx, lx, ex, px⟩ := J1.2.1 (16 * o + i) (by omega) ei
    have px16 : p x / 16 = o := by omega
    have V := cf_vac2 X hh lh ho no' ko lo hx lx px16
    have hz1 : ∀ y, cf_u z h 0 y ≤ 16 := by
      intro y
      by_cases e : y = h
      · rw [e, cf_us]; omega
      · rw [cf_un e]; exact hz y
    obtain ⟨b1, b2, b3, b4⟩ := J1.1 x hx lx
    have kx : cf_kd (cf_u z h 0 x) = cf_kd (z h) := by
      rw [px16, ko] at b2
      exact (cf_inj (by omega) (by have := cf_kd4 (cf_u z h 0 x); omega) b2).symm
    have fx := cf_fit (cf_u z h 0 x) (by have := hz1 x; omega)
    rw [kx] at fx b3
    have nq : p h ≠ p x := by
      intro q
      rw [← q, cf_vs] at b1
      exact cf_nm1 (by omega) b1.symm
    have dd : ∀ a b, a < cf_u z h 0 x → b < cf_u z h 0 x → 16 * o + i + a ≠ p h + b := by
      intro a b ha hb
      have := cf_dq J1.1 hz1 hx lx k4 a3 a2 nq (i := b) (j := a) (by omega) ha
      omega
    have ia : 16 * o + i + cf_u z h 0 x ≤ 192 := by
      have := cf_inst J1.1 h2 hz1 hx (i := cf_u z h 0 x - 1) (by omega)
      omega
    have ib : p h + cf_u z h 0 x ≤ 192 := by
      have := cf_inpg k4 a3 (i := cf_u z h 0 x - 1) (by omega)
      omega
    refine cf_xmove (by omega) hi ex (fun j hj => ?_) hx ia q192 ib dd ?_
    · by_cases q : upd Ho (p h) (-1) (16 * o + j) = -1
      · exact q
      · exact absurd ⟨by omega, q⟩ (li j hj)
    · rw [← px]
      by_cases f : cf_hl (upd (upd (upd Ho (p h) (-1)) (p x) (-1)) (p h) (nI x)) o = 0
      · exact cf_xv55_0 (by omega) f (hp _ _ _ _ (V.1 f))
      · exact cf_xv55_1 (by omega) (by omega) (hp _ _ _ _ (V.2 (by omega)))
  · have V := cf_vac1 X hh lh (fun g hg n eg lg => e ⟨g, hg, fun q => n (cf_inj (by omega) (by omega) q), eg, lg⟩)
    refine cf_xpp_f h2 k4 (fun j hj q => e ⟨j, hj, q⟩) (br_t rfl ?_)
    by_cases f : cf_hl (upd Ho (p h) (-1)) (p h / 16) = 0
    · exact cf_xv55_0 g12 f (hp _ _ _ _ (V.1 f))
    · exact cf_xv55_1 g12 (by omega) (hp _ _ _ _ (V.2 (by omega)))
end
section
/-! the reference's methods -/
abbrev cf_T (f0 : Int32) (z : Nat → Nat) (wy : Nat → Int32) : SY := (f0, fun j => nI (z j), wy)
section
variable {f0 : Int32} {z : Nat → Nat} {wy : Nat → Int32}
theorem cf_ygood {post : Int32 → Prop} {h : Nat} (hh : h < 64) (lh : 0 < z h) (hz : ∀ j, z j ≤ 16) (hp : post 0) : wpY_bad post (cf_T f0 z wy) (nI h) := by
  have l16 := hz h
  refine br_f (nI_pos (by omega)) (br_f (nI_nlt (a := 63) (by omega) (by decide)) ⟨vp_in_nI hh (by decide), br_f ?_ hp⟩)
  rw [nI_clamp (by omega)]
  exact nI_ne0 (n := z h) lh (by omega)
theorem cf_ybad {post : Int32 → Prop} {x : Int32} (h : cf_bad z x) (hp : post 1) : wpY_bad post (cf_T f0 z wy) x := by
  refine br_c (fun _ => hp) (fun n1 => br_c (fun _ => hp) (fun n2 => ?_))
  rcases h with h | h | ⟨j, hj, ej, rfl⟩
  · exact absurd h n1
  · exact absurd (Int32.lt_of_lt_of_le (by decide) h) n2
  · refine ⟨vp_in_nI hj (by decide), br_t ?_ hp⟩
    rw [nI_clamp (by omega)]
    show nI (z j) = 0
    rw [ej]
    rfl
theorem cf_ykind {post : Int32 → Prop} {n : Nat} (hn : n ≤ 16) (hp : post (nI (cf_kd n))) : wpY_kindOf post (cf_T f0 z wy) (nI n) := by
  refine pk_le 3 n (fun a => pk_le 5 n (fun b => pk_le 9 n (fun c => ?_) (fun c => ?_)) (fun b => ?_)) (fun a => ?_)
  · rw [cf_kd3 (by omega)] at hp; exact hp
  · rw [cf_kd2 (by omega) (by omega)] at hp; exact hp
  · rw [cf_kd1 (by omega) (by omega)] at hp; exact hp
  · rw [cf_kd0 (by omega)] at hp; exact hp
theorem cf_yalive {post : Int32 → Prop} {k : Nat} (hk : k < 4) (hz : ∀ j, z j ≤ 16) (hp : post (nI (cf_nk z k))) : wpY_alive post (cf_T f0 z wy) (nI k) := by
  have key : ∀ d i : Nat, i + d = 64 → wY_alive_4 post (nI k) f0 (fun j => nI (z j)) wy (d + 1) (nI (cf_cn (fun h => 0 < z h ∧ cf_kd (z h) = k) i)) (nI i) := by
    intro d
    induction d with
    | zero =>
      intro i hi
      have e : i = 64 := by omega
      subst e
      exact br_t (nI_le (a := 64) (by omega) (by omega)) hp
    | succ d ih =>
      intro i hi
      have t := ih (i + 1) (by omega)
      rw [cf_cn_s] at t
      have l16 := hz i
      have k4 := cf_kd4 (z i)
      refine br_f (nI_ge (b := 64) (by omega) (by decide)) ⟨vp_in_nI (by omega) (by decide), ?_⟩
      rw [nI_clamp (by omega)]
      by_cases e0 : z i = 0
      · rw [cf_bf (fun q => by omega)] at t
        exact br_t (show nI (z i) ≤ 0 from by rw [e0]; decide) (nm_r (nI_1 i) t)
      · refine br_f (nI_nle (n := z i) (by omega) (by omega)) ⟨vp_in_nI (by omega) (by decide), cf_ykind (n := z i) l16 ?_⟩
        by_cases ek : cf_kd (z i) = k
        · rw [cf_bt ⟨by omega, ek⟩] at t
          exact br_t (by rw [ek]) (nm_r (nI_1 _) (nm_r (nI_1 i) t))
        · rw [cf_bf (fun q => ek q.2)] at t
          exact br_f (fun q => ek (cf_inj (by omega) (by omega) q)) (nm_r (nI_1 i) t)
  exact ⟨65, key 64 0 rfl⟩
theorem cf_pgY {n k : Nat} (hk : k < 4) (hn : n ≤ 300) : ((nI n + nI (cf_pr k)) - 1) / nI (cf_pr k) = nI (cf_pg k n) := by
  have a := cf_pr8 hk
  show ((nI n + nI (cf_pr k)) - nI 1) / nI (cf_pr k) = nI (cf_pg k n)
  rw [nI_add, pk_sub (by omega), pk_div (by omega) (by omega) (by omega), show n + cf_pr k - 1 = n + (cf_pr k - 1) from by omega]
  rfl
theorem cf_yneed {post : Int32 → Prop} {x1 x3 : Int32} {m l : Nat} (hm : m ≤ 100) (hl : l ≤ 1) (hz : ∀ j, z j ≤ 16) (h3 : ∀ c, c < 4 → x3 = nI c → l ≤ cf_nk z c)
    (hp : post (nI (cf_nd (fun c => cf_nk z c + cf_am x1 c m - cf_am x3 c l)))) : wpY_needs post (cf_T f0 z wy) x1 (nI m) x3 (nI l) := by
  rw [← cf_nd_sm] at hp
  have key : ∀ d i : Nat, i + d = 4 → wY_needs_6 post x1 (nI m) x3 (nI l) f0 (fun j => nI (z j)) wy (d + 1) (nI (cf_sm (fun c => cf_pg c (cf_nk z c + cf_am x1 c m - cf_am x3 c l)) i)) (nI i) := by
    intro d
    induction d with
    | zero =>
      intro i hi
      have e : i = 4 := by omega
      subst e
      exact br_t (nI_le (a := 4) (by omega) (by omega)) hp
    | succ d ih =>
      intro i hi
      have t := ih (i + 1) (by omega)
      rw [cf_sm_s] at t
      have n64 := cf_nk64 z i
      have i4 : i < 4 := by omega
      have pr := cf_pr8 i4
      refine br_f (nI_ge (b := 4) i4 (by decide)) (cf_yalive i4 hz ?_)
      have s45 : ∀ q, q ≤ 300 → q = cf_nk z i + cf_am x1 i m - cf_am x3 i l → wY_needs_45 post (wY_needs_6 post x1 (nI m) x3 (nI l) f0 (fun j => nI (z j)) wy (d + 1)) x1 (nI m) x3 (nI l) (nI (cf_sm (fun c => cf_pg c (cf_nk z c + cf_am x1 c m - cf_am x3 c l)) i)) (nI i) (nI q) f0 (fun j => nI (z j)) wy := by
        intro q hq eq
        refine nm_r (cf_sr i i4) (br_t (nI_le (a := 1) pr.1 (by omega)) ⟨nI_ne0 (by omega) (by omega), nm_r ?_ (nm_r (nI_1 i) t)⟩)
        rw [cf_pgY i4 hq, nI_add, eq]
      have s32 : ∀ q, q ≤ 299 → q = cf_nk z i + cf_am x1 i m → wY_needs_32 post (wY_needs_6 post x1 (nI m) x3 (nI l) f0 (fun j => nI (z j)) wy (d + 1)) x1 (nI m) x3 (nI l) (nI (cf_sm (fun c => cf_pg c (cf_nk z c + cf_am x1 c m - cf_am x3 c l)) i)) (nI i) (nI q) f0 (fun j => nI (z j)) wy := by
        intro q hq eq
        refine br_c (fun a => ?_) (fun a => ?_)
        · have g := h3 i i4 a.symm
          have e2 : cf_am x3 i l = l := if_pos a.symm
          exact nm_r (pk_sub (by omega)) (s45 _ (by omega) (by omega))
        · have e2 : cf_am x3 i l = 0 := if_neg (fun b => a b.symm)
          exact s45 q (by omega) (by omega)
      refine br_c (fun a => ?_) (fun a => ?_)
      · have e1 : cf_am x1 i m = m := if_pos a.symm
        exact nm_r (nI_add _ _) (s32 _ (by omega) (by omega))
      · have e1 : cf_am x1 i m = 0 := if_neg (fun b => a b.symm)
        exact s32 _ (by omega) (by omega)
  exact ⟨5, key 4 0 rfl⟩
theorem cf_ylf_t {post : Int32 → Prop} {h : Nat} (hh : h < 64) (h0 : z h = 0) (hz : ∀ j, z j ≤ 16) (hl : ∀ j, j < h → z j ≠ 0) (hp : post (nI h)) : wpY_leastFree post (cf_T f0 z wy) := by
  have key : ∀ d i : Nat, i + d = h → wY_leastFree_2 post f0 (fun j => nI (z j)) wy (d + 1) (nI i) := by
    intro d
    induction d with
    | zero =>
      intro i hi
      have e : i = h := by omega
      rw [e]
      refine br_f (nI_ge (b := 64) hh (by decide)) ⟨vp_in_nI hh (by decide), br_t ?_ hp⟩
      rw [nI_clamp (by omega)]
      show nI (z h) = 0
      rw [h0]
      rfl
    | succ d ih =>
      intro i hi
      have l16 := hz i
      have n0 := hl i (by omega)
      refine br_f (nI_ge (b := 64) (by omega) (by decide)) ⟨vp_in_nI (by omega) (by decide), br_f ?_ (nm_r (nI_1 i) (ih (i + 1) (by omega)))⟩
      rw [nI_clamp (by omega)]
      exact nI_ne0 (n := z i) (by omega) (by omega)
  exact ⟨h + 1, key h 0 (by omega)⟩
theorem cf_ylf_f {post : Int32 → Prop} (hz : ∀ j, z j ≤ 16) (hl : ∀ j, j < 64 → z j ≠ 0) (hp : post (-1)) : wpY_leastFree post (cf_T f0 z wy) := by
  have key : ∀ d i : Nat, i + d = 64 → wY_leastFree_2 post f0 (fun j => nI (z j)) wy (d + 1) (nI i) := by
    intro d
    induction d with
    | zero =>
      intro i hi
      exact br_t (nI_le (a := 64) (by omega) (by omega)) hp
    | succ d ih =>
      intro i hi
      have l16 := hz i
      have n0 := hl i (by omega)
      refine br_f (nI_ge (b := 64) (by omega) (by decide)) ⟨vp_in_nI (by omega) (by decide), br_f ?_ (nm_r (nI_1 i) (ih (i + 1) (by omega)))⟩
      rw [nI_clamp (by omega)]
      exact nI_ne0 (n := z i) (by omega) (by omega)
  exact ⟨65, key 64 0 rfl⟩
theorem cf_ywipe {post : SY → Prop} {h : Nat} (hh : h < 64) (hp : post (cf_T f0 (cf_u z h 0) (cf_wr wy (16 * h) (fun _ => 0) 16))) : wpY_wipe post (cf_T f0 z wy) (nI h) := by
  have key : ∀ d i : Nat, i + d = 16 → wY_wipe_9 post (nI h) f0 (d + 1) (nI i) (fun j => nI (cf_u z h 0 j)) (cf_wr wy (16 * h) (fun _ => 0) i) := by
    intro d
    induction d with
    | zero =>
      intro i hi
      have e : i = 16 := by omega
      subst e
      exact br_t (nI_le (a := 16) (by omega) (by omega)) hp
    | succ d ih =>
      intro i hi
      have t := ih (i + 1) (by omega)
      rw [← cf_wr_s] at t
      refine br_f (nI_ge (b := 16) (by omega) (by decide)) ⟨cf_iyi (by omega), nm_r ?_ (nm_r (nI_1 i) t)⟩
      rw [cf_iy (by omega)]
  have k0 := key 16 0 rfl
  rw [cf_wr_0] at k0
  refine ⟨vp_in_nI hh (by decide), nm_r (e' := fun j => nI (cf_u z h 0 j)) ?_ ⟨17, k0⟩⟩
  rw [nI_clamp (by omega)]
  exact cf_uI z h 0
theorem cf_ya1 {post : Int32 → SY → Prop} {x : Int32} (h : x < 1 ∨ 16 < x) (hp : post (-1) (cf_T f0 z wy)) : wpY_allocate post (cf_T f0 z wy) x := by
  refine br_c (fun _ => hp) (fun n => br_f ?_ hp)
  exact Int32.not_le.mpr (h.resolve_left n)
theorem cf_ya2 {post : Int32 → SY → Prop} {n : Nat} (h1 : 1 ≤ n) (h2 : n ≤ 16) (hz : ∀ j, z j ≤ 16) (hl : ∀ j, j < 64 → z j ≠ 0) (hp : post (-2) (cf_T f0 z wy)) : wpY_allocate post (cf_T f0 z wy) (nI n) :=
  br_f (nI_nlt (b := 1) h1 (by omega)) (br_t (nI_le (b := 16) h2 (by decide)) (cf_ylf_f hz hl (br_f (by decide) hp)))
theorem cf_fk {k l : Nat} (hk : k < 4) : cf_nd (fun c => cf_nk z c + cf_am (nI k) c 1 - cf_am (-1) c l) = cf_nd (fun c => cf_nk z c + if c = k then 1 else 0) :=
  cf_nd_congr (fun c hc => by
    show cf_nk z c + cf_am (nI k) c 1 - cf_am (-1) c l = cf_nk z c + if c = k then 1 else 0
    rw [cf_am_k hk hc, cf_am_m hc, Nat.sub_zero])
theorem cf_ya3 {post : Int32 → SY → Prop} {P n h : Nat} (hP : P ≤ 12) (h1 : 1 ≤ n) (h2 : n ≤ 16) (hz : ∀ j, z j ≤ 16) (hh : h < 64) (h0 : z h = 0) (hl : ∀ j, j < h → z j ≠ 0)
    (hn : P < cf_nd (fun c => cf_nk z c + if c = cf_kd n then 1 else 0)) (hb : cf_nd (fun c => cf_nk z c + if c = cf_kd n then 1 else 0) < 2 ^ 31) (hp : post (-3) (cf_T (nI P) z wy)) : wpY_allocate post (cf_T (nI P) z wy) (nI n) := by
  refine br_f (nI_nlt (b := 1) h1 (by omega)) (br_t (nI_le (b := 16) h2 (by decide)) (cf_ylf_t hh h0 hz hl (br_t (nI_pos' (by omega)) (cf_ykind h2 (cf_yneed (m := 1) (l := 0) (by decide) (by decide) hz (fun _ _ _ => Nat.zero_le _) (br_f ?_ hp))))))
  rw [cf_fk (cf_kd4 n)]
  exact nI_ge hn hb
theorem cf_ya0 {post : Int32 → SY → Prop} {P n h : Nat} (hP : P ≤ 12) (h1 : 1 ≤ n) (h2 : n ≤ 16) (hz : ∀ j, z j ≤ 16) (hh : h < 64) (h0 : z h = 0) (hl : ∀ j, j < h → z j ≠ 0)
    (hn : cf_nd (fun c => cf_nk z c + if c = cf_kd n then 1 else 0) ≤ P) (hp : post (nI h) (cf_T (nI P) (cf_u z h n) (cf_wr wy (16 * h) (fun _ => 0) 16))) : wpY_allocate post (cf_T (nI P) z wy) (nI n) := by
  refine br_f (nI_nlt (b := 1) h1 (by omega)) (br_t (nI_le (b := 16) h2 (by decide)) (cf_ylf_t hh h0 hz hl (br_t (nI_pos' (by omega)) (cf_ykind h2 (cf_yneed (m := 1) (l := 0) (by decide) (by decide) hz (fun _ _ _ => Nat.zero_le _) (br_t ?_ (cf_ywipe hh ⟨vp_in_nI hh (by decide), nm_r (e' := fun j => nI (cf_u z h n j)) ?_ hp⟩)))))))
  · rw [cf_fk (cf_kd4 n)]
    exact nI_le hn (by omega)
  · rw [nI_clamp (by omega), cf_uI, cf_uu]
end
end
section
/-! the relation, and the methods that change little -/
def cf_R (P : Nat) (z p : Nat → Nat) (w Ho Pk wy : Nat → Int32) : Prop :=
  cf_X P z p (fun h j => wy (16 * h + j)) w Ho Pk ∧ (∀ h, h < 64 → ∀ j, j < 16 → z h ≤ j → wy (16 * h + j) = 0) ∧ cf_nd (cf_nk z) ≤ P
def i_Rel (k : Nat) (u : SX) (v : SY) : Prop :=
  ∃ (P : Nat) (z p : Nat → Nat) (w Ho Pk sp wy : Nat → Int32), u = (nI P, w, Ho, fun j => nI (z j), fun j => nI (p j), Pk, sp) ∧ v = (nI P, fun j => nI (z j), wy) ∧ cf_R P z p w Ho Pk wy
theorem i_up {k : Nat} {u : SX} {v : SY} (h : i_Rel k u v) : i_Rel (k + 4) u v := h
theorem cf_rel {k P : Nat} {z p : Nat → Nat} {w Ho Pk sp wy : Nat → Int32} (R : cf_R P z p w Ho Pk wy) : i_Rel k (cf_S (nI P) w Ho z p Pk sp) (cf_T (nI P) z wy) :=
  ⟨P, z, p, w, Ho, Pk, sp, wy, rfl, rfl, R⟩
theorem cf_init79 {post : SX → Prop} {f0 : Int32} (hp : ∀ Ho Pk : Nat → Int32, (∀ q, q < 192 → Ho q = -1) → (∀ g, g < 12 → Pk g = -1) → post (f0, fun _ => 0, Ho, fun _ => 0, fun _ => 0, Pk, fun _ => 0)) :
    ∃ n, wX_init_79 post f0 n 0 (fun _ => 0) (fun _ => 0) (fun _ => 0) (fun _ => 0) (fun _ => 0) (fun _ => 0) := by
  have key2 : ∀ Pk : Nat → Int32, (∀ g, g < 12 → Pk g = -1) → ∀ d i : Nat, i + d = 192 →
      wX_init_100 post f0 (d + 1) (nI i) (fun _ => 0) (cf_wr (fun _ => 0) 0 (fun _ => -1) i) (fun _ => 0) (fun _ => 0) Pk (fun _ => 0) := by
    intro Pk hPk d
    induction d with
    | zero =>
      intro i hi
      have e : i = 192 := by omega
      subst e
      refine br_t (nI_le (a := 192) (by omega) (by omega)) (hp _ _ (fun q hq => ?_) hPk)
      have := cf_wr_in (w := fun _ => (0 : Int32)) (b := 0) (v := fun _ => (-1 : Int32)) hq
      rw [Nat.zero_add] at this
      exact this
    | succ d ih =>
      intro i hi
      have t := ih (i + 1) (by omega)
      rw [← cf_wr_s, Nat.zero_add] at t
      refine br_f (nI_ge (b := 192) (by omega) (by decide)) ⟨vp_in_nI (by omega) (by decide), nm_r ?_ (nm_r (nI_1 i) t)⟩
      rw [nI_clamp (by omega)]
  have key1 : ∀ d i : Nat, i + d = 12 →
      wX_init_79 post f0 (d + 1) (nI i) (fun _ => 0) (fun _ => 0) (fun _ => 0) (fun _ => 0) (cf_wr (fun _ => 0) 0 (fun _ => -1) i) (fun _ => 0) := by
    intro d
    induction d with
    | zero =>
      intro i hi
      have e : i = 12 := by omega
      subst e
      have k2 := key2 (cf_wr (fun _ => 0) 0 (fun _ => -1) 12) (fun g hg => by
        have := cf_wr_in (w := fun _ => (0 : Int32)) (b := 0) (v := fun _ => (-1 : Int32)) hg
        rw [Nat.zero_add] at this
        exact this) 192 0 rfl
      rw [cf_wr_0] at k2
      exact br_t (nI_le (a := 12) (by omega) (by omega)) ⟨193, k2⟩
    | succ d ih =>
      intro i hi
      have t := ih (i + 1) (by omega)
      rw [← cf_wr_s, Nat.zero_add] at t
      refine br_f (nI_ge (b := 12) (by omega) (by decide)) ⟨vp_in_nI (by omega) (by decide), nm_r ?_ (nm_r (nI_1 i) t)⟩
      rw [nI_clamp (by omega)]
  have k1 := key1 12 0 rfl
  rw [cf_wr_0] at k1
  exact ⟨13, k1⟩
theorem cf_R0 {P : Nat} {Ho Pk : Nat → Int32} (h1 : 2 ≤ P) (h2 : P ≤ 12) (hH : ∀ q, q < 192 → Ho q = -1) (hK : ∀ g, g < 12 → Pk g = -1) : cf_R P (fun _ => 0) (fun _ => 0) (fun _ => 0) Ho Pk (fun _ => 0) := by
  refine ⟨⟨h1, h2, fun _ => Nat.zero_le _, fun _ => Nat.zero_lt_succ 191, ⟨?_, ?_, ?_⟩, ⟨?_, ?_⟩, ?_⟩, ?_, ?_⟩
  · intro h _ l
    exact absurd l (Nat.lt_irrefl 0)
  · intro q hq n
    exact absurd (hH q hq) n
  · intro g hg n
    exact absurd (hK g (by omega)) n
  · intro g hg n
    exact absurd (hK g (by omega)) n
  · intro g g' k hg _ hk e
    rw [hK g (by omega)] at e
    exact absurd e.symm (cf_nm1 (by omega))
  · intro h _ j hj
    exact absurd hj (Nat.not_lt_zero j)
  · intro h _ j _ _
    rfl
  · have e : cf_nd (cf_nk (fun _ => 0)) = cf_nd (fun _ => 0) := cf_nd_congr (fun c _ => cf_cn_none (fun i _ q => absurd q.1 (Nat.lt_irrefl 0)))
    rw [e]
    exact Nat.le_trans (Nat.le_of_eq (show cf_nd (fun _ => 0) = 0 from by decide)) (Nat.zero_le _)
theorem i_vc0 (k0 : Int32) : wpX_init (fun u => wpY_init (fun v => i_Rel 1 u v) k0) k0 := by
  by_cases a : 2 ≤ k0
  · by_cases b : k0 ≤ 12
    · obtain ⟨P, hP, rfl⟩ := nI_of2 (M := 12) (n := 12) (by decide) (Int32.not_lt.mpr (Int32.le_trans (by decide) a)) b
      have P2 : 2 ≤ P := (nI_leI (a := 2) (by decide) (by omega)).mp a
      exact br_t a (br_t b (cf_init79 (fun Ho Pk h1 h2 => br_t a (br_t b (cf_rel (z := fun _ => 0) (p := fun _ => 0) (cf_R0 P2 hP h1 h2))))))
    · exact br_t a (br_f b (cf_init79 (fun Ho Pk h1 h2 => br_t a (br_f b (cf_rel (P := 12) (z := fun _ => 0) (p := fun _ => 0) (cf_R0 (by decide) (by decide) h1 h2))))))
  · exact br_f a (br_t (by decide) (cf_init79 (fun Ho Pk h1 h2 => br_f a (cf_rel (P := 2) (z := fun _ => 0) (p := fun _ => 0) (cf_R0 (by decide) (by decide) h1 h2)))))
theorem i_vc_pages {k : Nat} {u : SX} {v : SY} (I : i_Rel k u v) (hk : k + 4 ≤ 2049) : wpX_pages (fun r => wpY_pages (fun r' => r' = r ∧ i_Rel (k + 4) u v) v) u := by
  obtain ⟨P, z, p, w, Ho, Pk, sp, wy, rfl, rfl, R⟩ := I
  exact ⟨rfl, cf_rel R⟩
theorem i_vc_size {k : Nat} {u : SX} {v : SY} (I : i_Rel k u v) (hk : k + 4 ≤ 2049) (v1 : Int32) : wpX_size (fun r => wpY_size (fun r' => r' = r ∧ i_Rel (k + 4) u v) v v1) u v1 := by
  obtain ⟨P, z, p, w, Ho, Pk, sp, wy, rfl, rfl, R⟩ := I
  have hz := R.1.2.2.1
  unfold wpX_size wpY_size
  dsimp only
  rcases cf_goods z v1 with ⟨h, hh, lh, rfl⟩ | hb
  · exact cf_xgood_t hh lh hz (br_f (by decide) ⟨vp_in_nI hh (by decide), cf_ygood hh lh hz (br_t rfl ⟨vp_in_nI hh (by decide), rfl, cf_rel R⟩)⟩)
  · exact cf_xgood_f hb (br_t rfl (cf_ybad hb (br_f (by decide) ⟨rfl, cf_rel R⟩)))
theorem i_vc_read {k : Nat} {u : SX} {v : SY} (I : i_Rel k u v) (hk : k + 4 ≤ 2049) (v1 : Int32) (v2 : Int32) : wpX_read (fun r => wpY_read (fun r' => r' = r ∧ i_Rel (k + 4) u v) v v1 v2) u v1 v2 := by
  obtain ⟨P, z, p, w, Ho, Pk, sp, wy, rfl, rfl, R⟩ := I
  have R0 := R
  obtain ⟨⟨-, h2, hz, -, J, -, hw⟩, -, -⟩ := R0
  unfold wpX_read wpY_read
  dsimp only
  rcases cf_goods z v1 with ⟨h, hh, lh, rfl⟩ | hb
  · have l16 := hz h
    have en : (nI h).toNatClampNeg = h := nI_clamp (by omega)
    rcases cf_words (z h) l16 v2 with ⟨j, hj, rfl⟩ | hx
    · have q := cf_inst J.1 h2 hz hh hj
      refine cf_xgood_t hh lh hz (br_f (by decide) (cf_xword_t hh hz hj (br_f (by decide) ⟨vp_in_nI hh (by decide), ?_⟩)))
      rw [en]
      refine ⟨cf_ii q (by decide), ?_⟩
      refine cf_ygood hh lh hz (br_t rfl (br_f (nI_pos (by omega)) ⟨vp_in_nI hh (by decide), br_t (nI_lt hj (by omega)) ⟨cf_iyi (by omega), ?_, cf_rel R⟩⟩))
      rw [cf_ix (by omega), cf_iy (by omega)]
      exact (hw h hh j hj).symm
    · refine cf_xgood_t hh lh hz (br_f (by decide) (cf_xword_f hh hx (br_t rfl (cf_ygood hh lh hz (br_t rfl (br_c (fun _ => ⟨rfl, cf_rel R⟩) (fun n1 => ⟨vp_in_nI hh (by decide), br_f ?_ ⟨rfl, cf_rel R⟩⟩)))))))
      rw [en]
      exact Int32.not_lt.mpr (hx.resolve_left n1)
  · exact cf_xgood_f hb (br_t rfl (cf_ybad hb (br_f (by decide) ⟨rfl, cf_rel R⟩)))
theorem cf_wr_1 (w : Nat → Int32) (b : Nat) (x : Int32) : upd w b x = cf_wr w b (fun _ => x) 1 := by
  rw [← cf_wr_s w b (fun _ => x) 0, cf_wr_0, Nat.add_zero]
/-- an object gets other words, on both sides -/
theorem cf_Rw {P : Nat} {z p : Nat → Nat} {w Ho Pk wy : Nat → Int32} (R : cf_R P z p w Ho Pk wy) {x a n : Nat} {v : Nat → Int32} (hx : x < 64) (hn : a + n ≤ z x) :
    cf_R P z p (cf_wr w (p x + a) v n) Ho Pk (cf_wr wy (16 * x + a) v n) := by
  obtain ⟨X, Z, N⟩ := R
  have hz := X.2.2.1
  have l16 := hz x
  refine ⟨cf_Xw X hx hn (fun j hj => ?_) (fun j hj hor => ?_) (fun y hy ny j hj => ?_), fun y hy j hj hzj => ?_, N⟩
  · show cf_wr wy (16 * x + a) v n (16 * x + (a + j)) = v j
    rw [← Nat.add_assoc, cf_wr_in hj]
  · exact cf_wr_out (fun m hm => by omega)
  · have ly := hz y
    exact cf_wr_out (fun m hm => by omega)
  · rw [cf_wr_out (fun m hm => ?_)]
    · exact Z y hy j hj hzj
    · intro e
      have e2 : y = x := by omega
      rw [e2] at hzj e
      omega
theorem i_vc_write {k : Nat} {u : SX} {v : SY} (I : i_Rel k u v) (hk : k + 4 ≤ 2049) (v1 : Int32) (v2 : Int32) (v3 : Int32) : wpX_write (fun r u' => wpY_write (fun r' v' => r' = r ∧ i_Rel (k + 4) u' v') v v1 v2 v3) u v1 v2 v3 := by
  obtain ⟨P, z, p, w, Ho, Pk, sp, wy, rfl, rfl, R⟩ := I
  have R0 := R
  obtain ⟨⟨-, h2, hz, -, J, -, hw⟩, -, -⟩ := R0
  unfold wpX_write wpY_write
  dsimp only
  rcases cf_goods z v1 with ⟨h, hh, lh, rfl⟩ | hb
  · have l16 := hz h
    have en : (nI h).toNatClampNeg = h := nI_clamp (by omega)
    rcases cf_words (z h) l16 v2 with ⟨j, hj, rfl⟩ | hx
    · have q := cf_inst J.1 h2 hz hh hj
      refine cf_xgood_t hh lh hz (br_f (by decide) (cf_xword_t hh hz hj (br_f (by decide) ⟨vp_in_nI hh (by decide), ?_⟩)))
      rw [en]
      refine ⟨cf_ii q (by decide), nm_r (e' := cf_wr w (p h + j) (fun _ => v3) 1) ?_ ?_⟩
      · rw [cf_ix (by omega), cf_wr_1]
      refine cf_ygood hh lh hz (br_t rfl (br_f (nI_pos (by omega)) ⟨vp_in_nI hh (by decide), br_t (nI_lt hj (by omega)) ⟨cf_iyi (by omega), nm_r (e' := cf_wr wy (16 * h + j) (fun _ => v3) 1) ?_ ⟨rfl, cf_rel (cf_Rw R hh (by omega))⟩⟩⟩))
      rw [cf_iy (by omega), cf_wr_1]
    · refine cf_xgood_t hh lh hz (br_f (by decide) (cf_xword_f hh hx (br_t rfl (cf_ygood hh lh hz (br_t rfl (br_c (fun _ => ⟨rfl, cf_rel R⟩) (fun n1 => ⟨vp_in_nI hh (by decide), br_f ?_ ⟨rfl, cf_rel R⟩⟩)))))))
      rw [en]
      exact Int32.not_lt.mpr (hx.resolve_left n1)
  · exact cf_xgood_f hb (br_t rfl (cf_ybad hb (br_f (by decide) ⟨rfl, cf_rel R⟩)))
theorem cf_xfill {post : Int32 → SX → Prop} {f0 v2 v3 : Int32} {w Ho s pl Pk sp : Nat → Int32} {q n : Nat} (hn : n ≤ 16) (hq : q + n ≤ 192)
    (hp : post (nI n) (f0, cf_wr w q (fun k => v2 + nI k * v3) n, Ho, s, pl, Pk, sp)) : ∃ m, wX_fill_29 post v2 v3 (nI n) (nI q) f0 m 0 w Ho s pl Pk sp := by
  have key : ∀ d i : Nat, i + d = n → wX_fill_29 post v2 v3 (nI n) (nI q) f0 (d + 1) (nI i) (cf_wr w q (fun k => v2 + nI k * v3) i) Ho s pl Pk sp := by
    intro d
    induction d with
    | zero =>
      intro i hi
      have e : i = n := by omega
      rw [e]
      exact br_t (nI_le (Nat.le_refl _) (by omega)) hp
    | succ d ih =>
      intro i hi
      have t := ih (i + 1) (by omega)
      rw [← cf_wr_s] at t
      refine br_f (nI_ge (by omega) (by omega)) ⟨cf_ii (by omega) (by decide), nm_r ?_ (nm_r (nI_1 i) t)⟩
      rw [cf_ix (by omega)]
  have k0 := key n 0 (by omega)
  rw [cf_wr_0] at k0
  exact ⟨n + 1, k0⟩
theorem cf_yfill {post : Int32 → SY → Prop} {f0 v2 v3 : Int32} {z : Nat → Nat} {wy : Nat → Int32} {h : Nat} (hh : h < 64) (hz : z h ≤ 16)
    (hp : post (nI (z h)) (cf_T f0 z (cf_wr wy (16 * h) (fun k => v2 + nI k * v3) (z h)))) : ∃ m, wY_fill_13 post (nI h) v2 v3 f0 m 0 (fun j => nI (z j)) wy := by
  have en : (nI h).toNatClampNeg = h := nI_clamp (by omega)
  have key : ∀ d i : Nat, i + d = z h → wY_fill_13 post (nI h) v2 v3 f0 (d + 1) (nI i) (fun j => nI (z j)) (cf_wr wy (16 * h) (fun k => v2 + nI k * v3) i) := by
    intro d
    induction d with
    | zero =>
      intro i hi
      have e : i = z h := by omega
      rw [e]
      refine ⟨vp_in_nI hh (by decide), br_t ?_ ⟨vp_in_nI hh (by decide), ?_⟩⟩
      · rw [en]; exact nI_le (b := z h) (Nat.le_refl _) (by omega)
      · rw [en]; exact hp
    | succ d ih =>
      intro i hi
      have t := ih (i + 1) (by omega)
      rw [← cf_wr_s] at t
      refine ⟨vp_in_nI hh (by decide), br_f ?_ (br_f (nI_ge (b := 16) (by omega) (by decide)) ⟨cf_iyi (by omega), nm_r ?_ (nm_r (nI_1 i) t)⟩)⟩
      · rw [en]; exact nI_ge (b := z h) (by omega) (by omega)
      · rw [cf_iy (by omega)]
  have k0 := key (z h) 0 (by omega)
  rw [cf_wr_0] at k0
  exact ⟨z h + 1, k0⟩
theorem i_vc_fill {k : Nat} {u : SX} {v : SY} (I : i_Rel k u v) (hk : k + 4 ≤ 2049) (v1 : Int32) (v2 : Int32) (v3 : Int32) : wpX_fill (fun r u' => wpY_fill (fun r' v' => r' = r ∧ i_Rel (k + 4) u' v') v v1 v2 v3) u v1 v2 v3 := by
  obtain ⟨P, z, p, w, Ho, Pk, sp, wy, rfl, rfl, R⟩ := I
  have R0 := R
  obtain ⟨⟨-, h2, hz, -, J, -, hw⟩, -, -⟩ := R0
  unfold wpX_fill wpY_fill
  dsimp only
  rcases cf_goods z v1 with ⟨h, hh, lh, rfl⟩ | hb
  · have l16 := hz h
    have q := cf_inst J.1 h2 hz hh (i := z h - 1) (by omega)
    refine cf_xgood_t hh lh hz (br_f (by decide) ⟨vp_in_nI hh (by decide), nm_r (cf_szI hh) ⟨vp_in_nI hh (by decide), nm_r (cf_szI (z := p) hh) (cf_xfill l16 (by omega) ?_)⟩⟩)
    refine cf_ygood hh lh hz (br_t rfl (cf_yfill hh l16 ⟨rfl, ?_⟩))
    exact cf_rel (cf_Rw R (a := 0) hh (by omega))
  · exact cf_xgood_f hb (br_t rfl (cf_ybad hb (br_f (by decide) ⟨rfl, cf_rel R⟩)))
theorem cf_xlive {post : Int32 → Prop} {f0 : Int32} {w Ho : Nat → Int32} {z p : Nat → Nat} {Pk sp : Nat → Int32} (hz : ∀ j, z j ≤ 16) (hp : post (nI (cf_cn (fun h => 0 < z h) 64))) : wpX_live post (cf_S f0 w Ho z p Pk sp) := by
  have key : ∀ d i : Nat, i + d = 64 → wX_live_4 post f0 w Ho (fun j => nI (z j)) (fun j => nI (p j)) Pk sp (d + 1) (nI (cf_cn (fun h => 0 < z h) i)) (nI i) := by
    intro d
    induction d with
    | zero =>
      intro i hi
      have e : i = 64 := by omega
      subst e
      exact br_t (nI_le (a := 64) (by omega) (by omega)) hp
    | succ d ih =>
      intro i hi
      have t := ih (i + 1) (by omega)
      rw [cf_cn_s] at t
      have l16 := hz i
      refine br_f (nI_ge (b := 64) (by omega) (by decide)) ⟨vp_in_nI (by omega) (by decide), ?_⟩
      rw [nI_clamp (by omega)]
      by_cases e0 : z i = 0
      · rw [cf_bf (fun q => by omega)] at t
        exact br_t (show nI (z i) ≤ 0 from by rw [e0]; decide) (nm_r (nI_1 i) t)
      · rw [cf_bt (by omega)] at t
        exact br_f (nI_nle (n := z i) (by omega) (by omega)) (nm_r (nI_1 _) (nm_r (nI_1 i) t))
  exact ⟨65, key 64 0 rfl⟩
theorem cf_ylive {post : Int32 → Prop} {f0 : Int32} {z : Nat → Nat} {wy : Nat → Int32} (hz : ∀ j, z j ≤ 16) (hp : post (nI (cf_cn (fun h => 0 < z h) 64))) : wpY_live post (cf_T f0 z wy) := by
  have key : ∀ d i : Nat, i + d = 64 → wY_live_4 post f0 (fun j => nI (z j)) wy (d + 1) (nI (cf_cn (fun h => 0 < z h) i)) (nI i) := by
    intro d
    induction d with
    | zero =>
      intro i hi
      have e : i = 64 := by omega
      subst e
      exact br_t (nI_le (a := 64) (by omega) (by omega)) hp
    | succ d ih =>
      intro i hi
      have t := ih (i + 1) (by omega)
      rw [cf_cn_s] at t
      have l16 := hz i
      refine br_f (nI_ge (b := 64) (by omega) (by decide)) ⟨vp_in_nI (by omega) (by decide), ?_⟩
      rw [nI_clamp (by omega)]
      by_cases e0 : z i = 0
      · rw [cf_bf (fun q => by omega)] at t
        exact br_t (show nI (z i) ≤ 0 from by rw [e0]; decide) (nm_r (nI_1 i) t)
      · rw [cf_bt (by omega)] at t
        exact br_f (nI_nle (n := z i) (by omega) (by omega)) (nm_r (nI_1 _) (nm_r (nI_1 i) t))
  exact ⟨65, key 64 0 rfl⟩
theorem i_vc_live {k : Nat} {u : SX} {v : SY} (I : i_Rel k u v) (hk : k + 4 ≤ 2049) : wpX_live (fun r => wpY_live (fun r' => r' = r ∧ i_Rel (k + 4) u v) v) u := by
  obtain ⟨P, z, p, w, Ho, Pk, sp, wy, rfl, rfl, R⟩ := I
  have hz := R.1.2.2.1
  exact cf_xlive hz (cf_ylive hz ⟨rfl, cf_rel R⟩)
theorem i_vc_liveIn {k : Nat} {u : SX} {v : SY} (I : i_Rel k u v) (hk : k + 4 ≤ 2049) (v1 : Int32) : wpX_liveIn (fun r => wpY_liveIn (fun r' => r' = r ∧ i_Rel (k + 4) u v) v v1) u v1 := by
  obtain ⟨P, z, p, w, Ho, Pk, sp, wy, rfl, rfl, R⟩ := I
  have hz := R.1.2.2.1
  unfold wpX_liveIn wpY_liveIn
  dsimp only
  rcases cf_kinds v1 with ⟨c, hc, rfl⟩ | hb
  · exact cf_xisk_t hc (br_f (by decide) (cf_xobj hc hz (br_f (nI_pos (by omega)) (br_t (nI_le (b := 3) (by omega) (by decide)) (cf_yalive hc hz ⟨rfl, cf_rel R⟩)))))
  · refine cf_xisk_f hb (br_t rfl (br_c (fun _ => ⟨rfl, cf_rel R⟩) (fun n => br_f (fun q => ?_) ⟨rfl, cf_rel R⟩)))
    exact absurd (Int32.le_trans (hb.resolve_left n) q) (by decide)
theorem i_vc_needed {k : Nat} {u : SX} {v : SY} (I : i_Rel k u v) (hk : k + 4 ≤ 2049) : wpX_needed (fun r => wpY_needed (fun r' => r' = r ∧ i_Rel (k + 4) u v) v) u := by
  obtain ⟨P, z, p, w, Ho, Pk, sp, wy, rfl, rfl, R⟩ := I
  have hz := R.1.2.2.1
  unfold wpX_needed wpY_needed
  dsimp only
  refine cf_xneed hz (fun c hc e => absurd e.symm (cf_nm1 (by omega))) (cf_yneed (m := 0) (l := 0) (by decide) (by decide) hz (fun _ _ _ => Nat.zero_le _) ⟨?_, cf_rel R⟩)
  refine congrArg nI (cf_nd_congr (fun c hc => ?_))
  show cf_nk z c + cf_am (-1) c 0 - cf_am (-1) c 0 = cf_nk z c + cf_am (-1) c 1 - cf_am (-1) c 1
  rw [cf_am_m hc, cf_am_m hc]
/-- how many more of a class there could be -/
theorem cf_room {n : Nat → Nat} {P k : Nat} (hk : k < 4) (hP : P ≤ 12) (h : cf_nd n ≤ P) : ∃ o, cf_nd n = o + cf_pg k (n k) ∧ o ≤ P ∧ n k ≤ (P - o) * cf_pr k ∧ (P - o) * cf_pr k ≤ 96 ∧
    ∀ m, cf_nd (fun c => n c + if c = k then m else 0) ≤ P ↔ n k + m ≤ (P - o) * cf_pr k := by
  have key : ∀ o, (cf_nd n = o + cf_pg k (n k)) → (∀ m, cf_nd (fun c => n c + if c = k then m else 0) = o + cf_pg k (n k + m)) → ∃ o, cf_nd n = o + cf_pg k (n k) ∧ o ≤ P ∧ n k ≤ (P - o) * cf_pr k ∧ (P - o) * cf_pr k ≤ 96 ∧
      ∀ m, cf_nd (fun c => n c + if c = k then m else 0) ≤ P ↔ n k + m ≤ (P - o) * cf_pr k := by
    intro o e em
    refine ⟨o, e, by omega, (cf_pg_iff hk).mp (by omega), ?_, fun m => ?_⟩
    · have a := cf_pr8 hk
      exact Nat.le_trans (Nat.mul_le_mul (show P - o ≤ 12 from by omega) a.2) (by decide)
    · rw [em m, ← cf_pg_iff hk]
      omega
  rcases cf_4 hk with rfl | rfl | rfl | rfl
  · refine key (cf_pg 1 (n 1) + cf_pg 2 (n 2) + cf_pg 3 (n 3)) (by unfold cf_nd; omega) (fun m => ?_)
    show cf_pg 0 (n 0 + m) + cf_pg 1 (n 1 + 0) + cf_pg 2 (n 2 + 0) + cf_pg 3 (n 3 + 0) = _
    simp only [Nat.add_zero]
    omega
  · refine key (cf_pg 0 (n 0) + cf_pg 2 (n 2) + cf_pg 3 (n 3)) (by unfold cf_nd; omega) (fun m => ?_)
    show cf_pg 0 (n 0 + 0) + cf_pg 1 (n 1 + m) + cf_pg 2 (n 2 + 0) + cf_pg 3 (n 3 + 0) = _
    simp only [Nat.add_zero]
    omega
  · refine key (cf_pg 0 (n 0) + cf_pg 1 (n 1) + cf_pg 3 (n 3)) (by unfold cf_nd; omega) (fun m => ?_)
    show cf_pg 0 (n 0 + 0) + cf_pg 1 (n 1 + 0) + cf_pg 2 (n 2 + m) + cf_pg 3 (n 3 + 0) = _
    simp only [Nat.add_zero]
    omega
  · refine key (cf_pg 0 (n 0) + cf_pg 1 (n 1) + cf_pg 2 (n 2)) (by unfold cf_nd; omega) (fun m => ?_)
    show cf_pg 0 (n 0 + 0) + cf_pg 1 (n 1 + 0) + cf_pg 2 (n 2 + 0) + cf_pg 3 (n 3 + m) = _
    simp only [Nat.add_zero]
theorem cf_ndbig {f : Nat → Nat} (h : ∀ c, c < 4 → f c ≤ 200) : cf_nd f ≤ 400 := by
  have a := cf_nd_mono (f' := fun _ => 200) h
  exact Nat.le_trans a (by decide)
theorem cf_yroom {post : Int32 → Prop} {P k r : Nat} {z : Nat → Nat} {wy : Nat → Int32} (hP : P ≤ 12) (hk : k < 4) (hz : ∀ j, z j ≤ 16) (hr : r ≤ 96)
    (hm : ∀ m, cf_nd (fun c => cf_nk z c + if c = k then m else 0) ≤ P ↔ m ≤ r) (hp : post (nI r)) : ∃ n, wY_roomFor_15 post (nI k) (nI P) (fun j => nI (z j)) wy n 0 1 := by
  have key : ∀ d i : Nat, i + d = 96 → wY_roomFor_15 post (nI k) (nI P) (fun j => nI (z j)) wy (d + 1) (nI (min i r)) (nI (i + 1)) := by
    intro d
    induction d with
    | zero =>
      intro i hi
      have e : i = 96 := by omega
      subst e
      refine br_t (nI_lt (a := 96) (by omega) (by omega)) ?_
      rw [show min 96 r = r from by omega]
      exact hp
    | succ d ih =>
      intro i hi
      have t := ih (i + 1) (by omega)
      have e : cf_nd (fun c => cf_nk z c + cf_am (nI k) c (i + 1) - cf_am (-1) c 0) = cf_nd (fun c => cf_nk z c + if c = k then i + 1 else 0) :=
        cf_nd_congr (fun c hc => by
          show cf_nk z c + cf_am (nI k) c (i + 1) - cf_am (-1) c 0 = cf_nk z c + if c = k then i + 1 else 0
          rw [cf_am_k hk hc, cf_am_m hc, Nat.sub_zero])
      have big : cf_nd (fun c => cf_nk z c + if c = k then i + 1 else 0) ≤ 400 := cf_ndbig (fun c hc => by
        show cf_nk z c + (if c = k then i + 1 else 0) ≤ 200
        have := cf_nk64 z c
        split <;> omega)
      refine br_f (nI_nlt (a := 96) (by omega) (by decide)) (cf_yneed (m := i + 1) (l := 0) (by omega) (by decide) hz (fun _ _ _ => Nat.zero_le _) ?_)
      rw [e]
      by_cases l : i + 1 ≤ r
      · have a := (hm (i + 1)).mpr l
        rw [show min (i + 1) r = i + 1 from by omega] at t
        exact br_f (nI_nlt a (by omega)) (nm_r (nI_1 _) t)
      · have a : P < cf_nd (fun c => cf_nk z c + if c = k then i + 1 else 0) := by
          by_cases q : cf_nd (fun c => cf_nk z c + if c = k then i + 1 else 0) ≤ P
          · exact absurd ((hm (i + 1)).mp q) l
          · omega
        rw [show min (i + 1) r = min i r from by omega] at t
        exact br_t (nI_lt a (by omega)) (nm_r (nI_1 _) t)
  have k0 := key 96 0 rfl
  rw [Nat.zero_min] at k0
  exact ⟨97, k0⟩
theorem i_vc_roomFor {k : Nat} {u : SX} {v : SY} (I : i_Rel k u v) (hk : k + 4 ≤ 2049) (v1 : Int32) : wpX_roomFor (fun r => wpY_roomFor (fun r' => r' = r ∧ i_Rel (k + 4) u v) v v1) u v1 := by
  obtain ⟨P, z, p, w, Ho, Pk, sp, wy, rfl, rfl, R⟩ := I
  have hz := R.1.2.2.1
  have hP := R.1.2.1
  unfold wpX_roomFor wpY_roomFor
  dsimp only
  rcases cf_kinds v1 with ⟨c, hc, rfl⟩ | hb
  · obtain ⟨o, e1, e2, e3, e4, e5⟩ := cf_room hc hP R.2.2
    have n64 := cf_nk64 z c
    have pr := cf_pr8 hc
    have en : cf_nd (fun c => cf_nk z c + cf_am (-1) c 1 - cf_am (-1) c 1) = cf_nd (cf_nk z) := cf_nd_congr (fun c hc => by
      show cf_nk z c + cf_am (-1) c 1 - cf_am (-1) c 1 = cf_nk z c
      rw [cf_am_m hc]
      omega)
    refine cf_xisk_t hc (br_f (by decide) (cf_xobj hc hz (cf_xneed hz (fun c hc e => absurd e.symm (cf_nm1 (by omega))) (cf_xpg hc (by omega) (nm_r (e' := nI o) ?_ (cf_xper hc ?_))))))
    · rw [en, pk_sub (by omega), e1, Nat.add_sub_cancel]
    · refine br_f (nI_pos (by omega)) (br_t (nI_le (b := 3) (by omega) (by decide)) (cf_yroom (r := (P - o) * cf_pr c - cf_nk z c) hP hc hz (by omega) (fun m => ?_) ⟨?_, cf_rel R⟩))
      · rw [e5 m]
        omega
      · rw [pk_sub e2, pk_mul, pk_sub e3]
  · refine cf_xisk_f hb (br_t rfl (br_c (fun _ => ⟨rfl, cf_rel R⟩) (fun n => br_f (fun q => ?_) ⟨rfl, cf_rel R⟩)))
    exact absurd (Int32.le_trans (hb.resolve_left n) q) (by decide)
end
section
/-! sum, next, count, faults -/
def cf_is (f : Nat → Int32) : Nat → Int32
  | 0 => 0
  | n + 1 => cf_is f n + f n
theorem cf_is_s (f : Nat → Int32) (n : Nat) : cf_is f (n + 1) = cf_is f n + f n := rfl
theorem cf_is_c {f f' : Nat → Int32} {n : Nat} (h : ∀ i, i < n → f i = f' i) : cf_is f n = cf_is f' n := by
  induction n with
  | zero => rfl
  | succ n ih => rw [cf_is_s, cf_is_s, ih (fun i hi => h i (by omega)), h n (by omega)]
theorem cf_is_0 {f : Nat → Int32} {n : Nat} (d : Nat) (h : ∀ i, n ≤ i → i < n + d → f i = 0) : cf_is f (n + d) = cf_is f n := by
  induction d with
  | zero => rfl
  | succ d ih =>
    rw [← Nat.add_assoc, cf_is_s, ih (fun i h1 h2 => h i h1 (by omega)), h (n + d) (by omega) (by omega), Int32.add_zero]
theorem cf_xsum {post : Int32 → Prop} {f0 : Int32} {w Ho s pl Pk sp : Nat → Int32} {q n : Nat} (hn : n ≤ 16) (hq : q + n ≤ 192) (hp : post (cf_is (fun k => w (q + k)) n)) : ∃ m, wX_sum_30 post (nI n) (nI q) f0 w Ho s pl Pk sp m 0 0 := by
  have key : ∀ d i : Nat, i + d = n → wX_sum_30 post (nI n) (nI q) f0 w Ho s pl Pk sp (d + 1) (cf_is (fun k => w (q + k)) i) (nI i) := by
    intro d
    induction d with
    | zero =>
      intro i hi
      have e : i = n := by omega
      rw [e]
      exact br_t (nI_le (Nat.le_refl _) (by omega)) hp
    | succ d ih =>
      intro i hi
      have t := ih (i + 1) (by omega)
      rw [cf_is_s] at t
      refine br_f (nI_ge (by omega) (by omega)) ⟨cf_ii (by omega) (by decide), nm_r ?_ (nm_r (nI_1 i) t)⟩
      rw [cf_ix (by omega)]
  exact ⟨n + 1, key n 0 (by omega)⟩
theorem cf_ysum {post : Int32 → Prop} {f0 : Int32} {s wy : Nat → Int32} {h : Nat} (hh : h < 64) (hp : post (cf_is (fun k => wy (16 * h + k)) 16)) : ∃ m, wY_sum_14 post (nI h) f0 s wy m 0 0 := by
  have key : ∀ d i : Nat, i + d = 16 → wY_sum_14 post (nI h) f0 s wy (d + 1) (cf_is (fun k => wy (16 * h + k)) i) (nI i) := by
    intro d
    induction d with
    | zero =>
      intro i hi
      have e : i = 16 := by omega
      subst e
      exact br_t (nI_le (a := 16) (by omega) (by omega)) hp
    | succ d ih =>
      intro i hi
      have t := ih (i + 1) (by omega)
      rw [cf_is_s] at t
      refine br_f (nI_ge (b := 16) (by omega) (by decide)) ⟨cf_iyi (by omega), nm_r ?_ (nm_r (nI_1 i) t)⟩
      rw [cf_iy (by omega)]
  exact ⟨17, key 16 0 rfl⟩
theorem i_vc_sum {k : Nat} {u : SX} {v : SY} (I : i_Rel k u v) (hk : k + 4 ≤ 2049) (v1 : Int32) : wpX_sum (fun r => wpY_sum (fun r' => r' = r ∧ i_Rel (k + 4) u v) v v1) u v1 := by
  obtain ⟨P, z, p, w, Ho, Pk, sp, wy, rfl, rfl, R⟩ := I
  have R0 := R
  obtain ⟨⟨-, h2, hz, -, J, -, hw⟩, Z, -⟩ := R0
  unfold wpX_sum wpY_sum
  dsimp only
  rcases cf_goods z v1 with ⟨h, hh, lh, rfl⟩ | hb
  · have l16 := hz h
    have q := cf_inst J.1 h2 hz hh (i := z h - 1) (by omega)
    refine cf_xgood_t hh lh hz (br_f (by decide) ⟨vp_in_nI hh (by decide), nm_r (cf_szI hh) ⟨vp_in_nI hh (by decide), nm_r (cf_szI (z := p) hh) (cf_xsum l16 (by omega) ?_)⟩⟩)
    refine cf_ygood hh lh hz (br_t rfl (cf_ysum hh ⟨?_, cf_rel R⟩))
    have e := cf_is_0 (f := fun k => wy (16 * h + k)) (n := z h) (16 - z h) (fun i h1 h2 => Z h hh i (by omega) h1)
    rw [show z h + (16 - z h) = 16 from by omega] at e
    exact e.trans (cf_is_c (fun i hi => (hw h hh i hi).symm))
  · exact cf_xgood_f hb (br_t rfl (cf_ybad hb (br_f (by decide) ⟨rfl, cf_rel R⟩)))
section
variable {f0 : Int32} {w Ho : Nat → Int32} {z p : Nat → Nat} {Pk sp wy : Nat → Int32}
theorem cf_xnx_t {post : Int32 → Prop} {a h : Nat} (hz : ∀ j, z j ≤ 16) (ha : a ≤ h) (hh : h < 64) (lh : 0 < z h) (hl : ∀ j, a ≤ j → j < h → z j = 0) (hp : post (nI h)) :
    ∃ n, wX_next_12 post f0 w Ho (fun j => nI (z j)) (fun j => nI (p j)) Pk sp n (nI a) := by
  have key : ∀ d i : Nat, a ≤ i → i + d = h → wX_next_12 post f0 w Ho (fun j => nI (z j)) (fun j => nI (p j)) Pk sp (d + 1) (nI i) := by
    intro d
    induction d with
    | zero =>
      intro i hai hi
      have e : i = h := by omega
      rw [e]
      have l16 := hz h
      refine br_f (nI_ge (b := 64) hh (by decide)) ⟨vp_in_nI hh (by decide), br_f ?_ hp⟩
      rw [nI_clamp (by omega)]
      exact nI_nle (n := z h) lh (by omega)
    | succ d ih =>
      intro i hai hi
      have t := ih (i + 1) (by omega) (by omega)
      refine br_f (nI_ge (b := 64) (by omega) (by decide)) ⟨vp_in_nI (by omega) (by decide), br_t ?_ (nm_r (nI_1 i) t)⟩
      rw [nI_clamp (by omega)]
      show nI (z i) ≤ 0
      rw [hl i hai (by omega)]
      decide
  exact ⟨h - a + 1, key (h - a) a (Nat.le_refl _) (by omega)⟩
theorem cf_xnx_f {post : Int32 → Prop} {a : Nat} (ha : a < 2 ^ 31) (hl : ∀ j, a ≤ j → j < 64 → z j = 0) (hp : post (-1)) :
    ∃ n, wX_next_12 post f0 w Ho (fun j => nI (z j)) (fun j => nI (p j)) Pk sp n (nI a) := by
  by_cases big : 64 ≤ a
  · exact ⟨1, br_t (nI_le (a := 64) big ha) hp⟩
  have key : ∀ d i : Nat, a ≤ i → i + d = 64 → wX_next_12 post f0 w Ho (fun j => nI (z j)) (fun j => nI (p j)) Pk sp (d + 1) (nI i) := by
    intro d
    induction d with
    | zero =>
      intro i hai hi
      exact br_t (nI_le (a := 64) (by omega) (by omega)) hp
    | succ d ih =>
      intro i hai hi
      have t := ih (i + 1) (by omega) (by omega)
      refine br_f (nI_ge (b := 64) (by omega) (by decide)) ⟨vp_in_nI (by omega) (by decide), br_t ?_ (nm_r (nI_1 i) t)⟩
      rw [nI_clamp (by omega)]
      show nI (z i) ≤ 0
      rw [hl i hai (by omega)]
      decide
  exact ⟨64 - a + 1, key (64 - a) a (Nat.le_refl _) (by omega)⟩
theorem cf_ynx_t {post : Int32 → Prop} {x : Int32} {h : Nat} (hz : ∀ j, z j ≤ 16) (hh : h < 64) (nx : ¬ nI h < x) (lh : 0 < z h) (hl : ∀ j, j < h → nI j < x ∨ z j = 0) (hp : post (nI h)) :
    wpY_next post (cf_T f0 z wy) x := by
  have key : ∀ d i : Nat, i + d = h → wY_next_2 post x f0 (fun j => nI (z j)) wy (d + 1) (nI i) := by
    intro d
    induction d with
    | zero =>
      intro i hi
      have e : i = h := by omega
      rw [e]
      have l16 := hz h
      refine br_f (nI_ge (b := 64) hh (by decide)) (br_f nx ⟨vp_in_nI hh (by decide), br_f ?_ hp⟩)
      rw [nI_clamp (by omega)]
      exact nI_nle (n := z h) lh (by omega)
    | succ d ih =>
      intro i hi
      have t := ih (i + 1) (by omega)
      refine br_f (nI_ge (b := 64) (by omega) (by decide)) (br_c (fun _ => nm_r (nI_1 i) t) (fun n => ⟨vp_in_nI (by omega) (by decide), br_t ?_ (nm_r (nI_1 i) t)⟩))
      rw [nI_clamp (by omega)]
      show nI (z i) ≤ 0
      rw [(hl i (by omega)).resolve_left n]
      decide
  exact ⟨h + 1, key h 0 (by omega)⟩
theorem cf_ynx_f {post : Int32 → Prop} {x : Int32} (hl : ∀ j, j < 64 → nI j < x ∨ z j = 0) (hp : post (-1)) :
    wpY_next post (cf_T f0 z wy) x := by
  have key : ∀ d i : Nat, i + d = 64 → wY_next_2 post x f0 (fun j => nI (z j)) wy (d + 1) (nI i) := by
    intro d
    induction d with
    | zero =>
      intro i hi
      exact br_t (nI_le (a := 64) (by omega) (by omega)) hp
    | succ d ih =>
      intro i hi
      have t := ih (i + 1) (by omega)
      refine br_f (nI_ge (b := 64) (by omega) (by decide)) (br_c (fun _ => nm_r (nI_1 i) t) (fun n => ⟨vp_in_nI (by omega) (by decide), br_t ?_ (nm_r (nI_1 i) t)⟩))
      rw [nI_clamp (by omega)]
      show nI (z i) ≤ 0
      rw [(hl i (by omega)).resolve_left n]
      decide
  exact ⟨65, key 64 0 rfl⟩
end
theorem i_vc_next {k : Nat} {u : SX} {v : SY} (I : i_Rel k u v) (hk : k + 4 ≤ 2049) (v1 : Int32) : wpX_next (fun r => wpY_next (fun r' => r' = r ∧ i_Rel (k + 4) u v) v v1) u v1 := by
  obtain ⟨P, z, p, w, Ho, Pk, sp, wy, rfl, rfl, R⟩ := I
  have hz := R.1.2.2.1
  have neg : ∀ j, j < 64 → v1 < 0 → ¬ nI j < v1 := fun j hj n q => absurd (Int32.lt_trans q n) (nI_pos (by omega))
  by_cases e : ∃ h, h < 64 ∧ ¬ nI h < v1 ∧ 0 < z h
  · obtain ⟨h, ⟨hh, nx, lh⟩, ls⟩ := pk_least _ e
    have hl : ∀ j, j < h → nI j < v1 ∨ z j = 0 := by
      intro j hj
      by_cases a : nI j < v1
      · exact Or.inl a
      · by_cases b : z j = 0
        · exact Or.inr b
        · exact absurd ⟨by omega, a, by omega⟩ (ls j hj)
    refine br_c (fun a => ?_) (fun a => ?_)
    · obtain ⟨m, hm, rfl⟩ := nI_of (Int32.not_lt.mpr a)
      rw [nI_ltI (by omega) hm] at nx
      refine cf_xnx_t hz (by omega) hh lh (fun j h1 h2 => (hl j h2).resolve_left (fun q => ?_)) (cf_ynx_t hz hh (fun q => nx ((nI_ltI (by omega) hm).mp q)) lh hl ⟨rfl, cf_rel R⟩)
      rw [nI_ltI (by omega) hm] at q
      omega
    · have n0 : v1 < 0 := Int32.not_le.mp a
      exact cf_xnx_t (a := 0) hz (by omega) hh lh (fun j _ h2 => (hl j h2).resolve_left (neg j (by omega) n0)) (cf_ynx_t hz hh nx lh hl ⟨rfl, cf_rel R⟩)
  · have hl : ∀ j, j < 64 → nI j < v1 ∨ z j = 0 := by
      intro j hj
      by_cases a : nI j < v1
      · exact Or.inl a
      · by_cases b : z j = 0
        · exact Or.inr b
        · exact absurd ⟨j, hj, a, by omega⟩ e
    refine br_c (fun a => ?_) (fun a => ?_)
    · obtain ⟨m, hm, rfl⟩ := nI_of (Int32.not_lt.mpr a)
      refine cf_xnx_f hm (fun j h1 h2 => (hl j h2).resolve_left (fun q => ?_)) (cf_ynx_f hl ⟨rfl, cf_rel R⟩)
      rw [nI_ltI (by omega) hm] at q
      omega
    · have n0 : v1 < 0 := Int32.not_le.mp a
      exact cf_xnx_f (a := 0) (by decide) (fun j _ h2 => (hl j h2).resolve_left (neg j h2 n0)) (cf_ynx_f hl ⟨rfl, cf_rel R⟩)
section
variable {f0 : Int32} {w Ho : Nat → Int32} {z p : Nat → Nat} {Pk sp wy : Nat → Int32}
theorem cf_xcount {post : Int32 → Prop} {x : Int32} (hz : ∀ j, z j ≤ 16) (hi : ∀ h, h < 64 → ∀ j, j < z h → p h + j < 192)
    (hp : post (nI (cf_sm (fun h => cf_cn (fun j => w (p h + j) = x) (z h)) 64))) : wpX_count post (cf_S f0 w Ho z p Pk sp) x := by
  have inner : ∀ (J : Int32 → Int32 → Prop) (h m : Nat), h < 64 → J (nI (m + cf_cn (fun j => w (p h + j) = x) (z h))) (nI (h + 1)) → ∀ d i : Nat, i + d = z h →
      wX_count_29 post J x (nI h) (nI (z h)) (nI (p h)) f0 w Ho (fun j => nI (z j)) (fun j => nI (p j)) Pk sp (d + 1) (nI (m + cf_cn (fun j => w (p h + j) = x) i)) (nI i) := by
    intro J h m hh hJ d
    have l16 := hz h
    induction d with
    | zero =>
      intro i hi
      have e : i = z h := by omega
      rw [e]
      exact br_t (nI_le (Nat.le_refl _) (by omega)) (nm_r (nI_1 h) hJ)
    | succ d ih =>
      intro i hi'
      have t := ih (i + 1) (by omega)
      rw [cf_cn_s] at t
      have b := hi h hh i (by omega)
      refine br_f (nI_ge (by omega) (by omega)) ⟨cf_ii b (by decide), ?_⟩
      rw [cf_ix (by omega)]
      by_cases e : w (p h + i) = x
      · rw [cf_bt e, ← Nat.add_assoc] at t
        exact br_t e (nm_r (nI_1 _) (nm_r (nI_1 i) t))
      · rw [cf_bf e, Nat.add_zero] at t
        exact br_f e (nm_r (nI_1 i) t)
  have key : ∀ d i : Nat, i + d = 64 → wX_count_4 post x f0 w Ho (fun j => nI (z j)) (fun j => nI (p j)) Pk sp (d + 1) (nI (cf_sm (fun h => cf_cn (fun j => w (p h + j) = x) (z h)) i)) (nI i) := by
    intro d
    induction d with
    | zero =>
      intro i hi
      have e : i = 64 := by omega
      subst e
      exact br_t (nI_le (a := 64) (by omega) (by omega)) hp
    | succ d ih =>
      intro i hi'
      have t := ih (i + 1) (by omega)
      rw [cf_sm_s] at t
      have s := inner _ i _ (by omega) t (z i) 0 (by omega)
      exact br_f (nI_ge (b := 64) (by omega) (by decide)) ⟨vp_in_nI (by omega) (by decide), nm_r (cf_szI (by omega)) ⟨vp_in_nI (by omega) (by decide), nm_r (cf_szI (z := p) (by omega)) ⟨z i + 1, s⟩⟩⟩
  exact ⟨65, key 64 0 rfl⟩
theorem cf_ycount {post : Int32 → Prop} {x : Int32} (hz : ∀ j, z j ≤ 16)
    (hp : post (nI (cf_sm (fun h => cf_cn (fun j => wy (16 * h + j) = x) (z h)) 64))) : wpY_count post (cf_T f0 z wy) x := by
  have inner : ∀ (J : Int32 → Int32 → Prop) (h m : Nat), h < 64 → J (nI (m + cf_cn (fun j => wy (16 * h + j) = x) (z h))) (nI (h + 1)) → ∀ d i : Nat, i + d = z h →
      wY_count_13 post J x (nI h) f0 (fun j => nI (z j)) wy (d + 1) (nI (m + cf_cn (fun j => wy (16 * h + j) = x) i)) (nI i) := by
    intro J h m hh hJ d
    have l16 := hz h
    have en : (nI h).toNatClampNeg = h := nI_clamp (by omega)
    induction d with
    | zero =>
      intro i hi
      have e : i = z h := by omega
      rw [e]
      refine ⟨vp_in_nI hh (by decide), br_t ?_ (nm_r (nI_1 h) hJ)⟩
      rw [en]
      exact nI_le (b := z h) (Nat.le_refl _) (by omega)
    | succ d ih =>
      intro i hi'
      have t := ih (i + 1) (by omega)
      rw [cf_cn_s] at t
      refine ⟨vp_in_nI hh (by decide), br_f ?_ (br_f (nI_ge (b := 16) (by omega) (by decide)) ⟨cf_iyi (by omega), ?_⟩)⟩
      · rw [en]
        exact nI_ge (b := z h) (by omega) (by omega)
      · rw [cf_iy (by omega)]
        by_cases e : wy (16 * h + i) = x
        · rw [cf_bt e, ← Nat.add_assoc] at t
          exact br_t e (nm_r (nI_1 _) (nm_r (nI_1 i) t))
        · rw [cf_bf e, Nat.add_zero] at t
          exact br_f e (nm_r (nI_1 i) t)
  have key : ∀ d i : Nat, i + d = 64 → wY_count_4 post x f0 (fun j => nI (z j)) wy (d + 1) (nI (cf_sm (fun h => cf_cn (fun j => wy (16 * h + j) = x) (z h)) i)) (nI i) := by
    intro d
    induction d with
    | zero =>
      intro i hi
      have e : i = 64 := by omega
      subst e
      exact br_t (nI_le (a := 64) (by omega) (by omega)) hp
    | succ d ih =>
      intro i hi'
      have t := ih (i + 1) (by omega)
      rw [cf_sm_s] at t
      have s := inner _ i _ (by omega) t (z i) 0 (by omega)
      exact br_f (nI_ge (b := 64) (by omega) (by decide)) ⟨z i + 1, s⟩
  exact ⟨65, key 64 0 rfl⟩
/-- no page holds an object of another class -/
theorem cf_xother {post : Int32 → Prop} {P g k : Nat} (hP : P ≤ 12) (J : cf_AB P z p Ho Pk) (hz : ∀ j, z j ≤ 16) (hg : g < P) (hk : k < 4) (e : Pk g = nI k) (hp : post 0) :
    wpX_holdsOtherKind post (cf_S f0 w Ho z p Pk sp) (nI g) (nI k) := by
  have key : ∀ d i : Nat, i + d = 16 → wX_holdsOtherKind_8 post (nI k) (nI (16 * g)) f0 w Ho (fun j => nI (z j)) (fun j => nI (p j)) Pk sp (d + 1) (nI (16 * g + i)) := by
    intro d
    induction d with
    | zero =>
      intro i hi
      exact br_t (cf_p16t (by omega) (by omega)) hp
    | succ d ih =>
      intro i hi
      have t := ih (i + 1) (by omega)
      rw [← Nat.add_assoc] at t
      refine br_f (cf_p16f (by omega) (by omega)) ⟨vp_in_nI (by omega) (by decide), ?_⟩
      rw [nI_clamp (by omega)]
      by_cases q : Ho (16 * g + i) = -1
      · exact nm_r q (br_t rfl (nm_r (nI_1 _) t))
      · obtain ⟨h, hh, lh, eh, ph⟩ := J.2.1 _ (by omega) q
        have a := (J.1 h hh lh).2.1
        rw [ph, show (16 * g + i) / 16 = g from by omega, e] at a
        have k4 := cf_kd4 (z h)
        exact nm_r eh (br_f (cf_nm1 (by omega)) (cf_xok_t hh hz ⟨lh, (cf_inj (by omega) (by omega) a).symm⟩ (br_f (by decide) (nm_r (nI_1 _) t))))
  exact nm_r (cf_m16 g) ⟨17, key 16 0 rfl⟩
end
theorem cf_xfaulty {post : Int32 → Prop} {P g : Nat} {z p : Nat → Nat} {c : Nat → Nat → Int32} {w Ho Pk sp : Nat → Int32} (X : cf_X P z p c w Ho Pk) (hg : g < P) (hp : post 0) :
    wpX_isFaulty post (cf_S (nI P) w Ho z p Pk sp) (nI g) := by
  obtain ⟨h1, h2, hz, hpl, J, D, hw⟩ := X
  refine ⟨vp_in_nI (by omega) (by decide), ?_⟩
  rw [nI_clamp (by omega)]
  by_cases e : Pk g = -1
  · exact nm_r e (br_t rfl hp)
  · obtain ⟨k, hk, ek⟩ := J.2.2 g hg e
    have b : cf_hl Ho g ≤ 16 := cf_cn_le _ _
    refine nm_r ek (br_f (cf_nm1 (by omega)) (cf_xheld (by omega) (br_f (nI_ne0 (D.1 g hg e) (by omega)) (cf_xother h2 J hz hg hk ek (br_t rfl ?_)))))
    by_cases q : cf_hl Ho g < cf_pr k
    · refine cf_xpp_t h2 hk hg (cf_nm1 (by omega)) ⟨ek, q⟩ (fun j hj w => ?_) (cf_xpart_t (by omega) hk ⟨ek, q⟩ (br_f (by decide) (br_t rfl hp)))
      have := D.2 j g k (by omega) hg hk w.2.1 ek w.2.2 q
      omega
    · have np : ¬ (Pk g = nI k ∧ cf_hl Ho g < cf_pr k) := fun w => q w.2
      by_cases f : ∃ r, r < P ∧ Pk r = nI k ∧ cf_hl Ho r < cf_pr k
      · obtain ⟨r, ⟨hr, er, lr⟩, ls⟩ := pk_least _ f
        exact cf_xpp_t h2 hk hr (cf_nm1 (by omega)) ⟨er, lr⟩ (fun j hj w => ls j hj ⟨by omega, w.2⟩) (cf_xpart_f (by omega) hk np (br_t rfl hp))
      · exact cf_xpp_f h2 hk (fun j hj w => f ⟨j, hj, w.2⟩) (cf_xpart_f (by omega) hk np (br_t rfl hp))
theorem i_vc_faults {k : Nat} {u : SX} {v : SY} (I : i_Rel k u v) (hk : k + 4 ≤ 2049) : wpX_faults (fun r => wpY_faults (fun r' => r' = r ∧ i_Rel (k + 4) u v) v) u := by
  obtain ⟨P, z, p, w, Ho, Pk, sp, wy, rfl, rfl, R⟩ := I
  have h2 := R.1.2.1
  have key : ∀ (post : Int32 → Prop), post 0 → ∀ d i : Nat, i + d = P → wX_faults_4 post (nI P) w Ho (fun j => nI (z j)) (fun j => nI (p j)) Pk sp (d + 1) 0 (nI i) := by
    intro post hp d
    induction d with
    | zero =>
      intro i hi
      exact br_t (nI_le (by omega) (by omega)) hp
    | succ d ih =>
      intro i hi
      exact br_f (nI_ge (by omega) (by omega)) (cf_xfaulty R.1 (by omega) (br_t rfl (nm_r (nI_1 i) (ih (i + 1) (by omega)))))
  exact ⟨P + 1, key _ ⟨rfl, cf_rel R⟩ P 0 (by omega)⟩
theorem i_vc_count {k : Nat} {u : SX} {v : SY} (I : i_Rel k u v) (hk : k + 4 ≤ 2049) (v1 : Int32) : wpX_count (fun r => wpY_count (fun r' => r' = r ∧ i_Rel (k + 4) u v) v v1) u v1 := by
  obtain ⟨P, z, p, w, Ho, Pk, sp, wy, rfl, rfl, R⟩ := I
  have R0 := R
  obtain ⟨⟨-, h2, hz, -, J, -, hw⟩, Z, -⟩ := R0
  refine cf_xcount hz (fun h hh j hj => cf_inst J.1 h2 hz hh hj) (cf_ycount hz ⟨congrArg nI ?_, cf_rel R⟩)
  refine cf_sm_congr (fun h hh => cf_cn_congr (fun j hj => ?_))
  show wy (16 * h + j) = v1 ↔ w (p h + j) = v1
  rw [hw h hh j hj]
end
section
/-! exchange, allocate, free, resize, copy -/
theorem cf_nk_put {z : Nat → Nat} {h n c : Nat} (hh : h < 64) (dh : z h = 0) (n1 : 0 < n) : cf_nk (cf_u z h n) c = cf_nk z c + if c = cf_kd n then 1 else 0 := by
  have e := cf_nk_u (z := z) (x := n) (c := c) hh
  rw [cf_bf (fun q => by omega)] at e
  by_cases k : c = cf_kd n
  · rw [cf_bt ⟨n1, k.symm⟩] at e
    rw [if_pos k]
    omega
  · rw [cf_bf (fun q => k q.2.symm)] at e
    rw [if_neg k]
    omega
theorem cf_nk_rm {z : Nat → Nat} {h c : Nat} (hh : h < 64) (lh : 0 < z h) : cf_nk (cf_u z h 0) c + (if c = cf_kd (z h) then 1 else 0) = cf_nk z c := by
  have e := cf_nk_u (z := z) (x := 0) (c := c) hh
  rw [cf_bf (p := 0 < 0 ∧ cf_kd 0 = c) (fun q => absurd q.1 (Nat.lt_irrefl 0))] at e
  by_cases k : c = cf_kd (z h)
  · rw [cf_bt ⟨lh, k.symm⟩] at e
    rw [if_pos k]
    omega
  · rw [cf_bf (fun q => k q.2.symm)] at e
    rw [if_neg k]
    omega
theorem cf_nk_ex {z : Nat → Nat} {a b c : Nat} (ha : a < 64) (hb : b < 64) : cf_nk (cf_u (cf_u z a (z b)) b (z a)) c = cf_nk z c := by
  have e1 := cf_nk_u (z := z) (x := z b) (c := c) ha
  have e2 := cf_nk_u (z := cf_u z a (z b)) (x := z a) (c := c) hb
  have e3 : cf_u z a (z b) b = z b := by
    by_cases e : b = a
    · rw [e, cf_us]
    · rw [cf_un e]
  rw [e3] at e2
  omega
def cf_sw (wy : Nat → Int32) (a b i : Nat) : Nat → Int32 := fun q => if q / 16 = a ∧ q % 16 < i then wy (16 * b + q % 16) else if q / 16 = b ∧ q % 16 < i then wy (16 * a + q % 16) else wy q
theorem cf_sw_0 (wy : Nat → Int32) (a b : Nat) : cf_sw wy a b 0 = wy := by
  funext q
  unfold cf_sw
  rw [if_neg (by omega), if_neg (by omega)]
theorem cf_sw_at {wy : Nat → Int32} {a b i h : Nat} (hi : i < 16) : cf_sw wy a b i (16 * h + i) = wy (16 * h + i) := by
  unfold cf_sw
  rw [if_neg (by omega), if_neg (by omega)]
theorem cf_sw_s {wy : Nat → Int32} {a b i : Nat} (hi : i < 16) : upd (upd (cf_sw wy a b i) (16 * a + i) (wy (16 * b + i))) (16 * b + i) (wy (16 * a + i)) = cf_sw wy a b (i + 1) := by
  funext q
  by_cases e : q = 16 * b + i
  · rw [e, cf_vs]
    unfold cf_sw
    by_cases ab : b = a
    · rw [if_pos (by omega), ab, show (16 * a + i) % 16 = i from by omega]
    · rw [if_neg (by omega), if_pos (by omega), show (16 * b + i) % 16 = i from by omega]
  · rw [cf_vn e]
    by_cases e2 : q = 16 * a + i
    · rw [e2, cf_vs]
      unfold cf_sw
      rw [if_pos (by omega), show (16 * a + i) % 16 = i from by omega]
    · rw [cf_vn e2]
      unfold cf_sw
      by_cases c1 : q / 16 = a ∧ q % 16 < i
      · rw [if_pos c1, if_pos (by omega)]
      · rw [if_neg c1, if_neg (c := q / 16 = a ∧ q % 16 < i + 1) (by omega)]
        by_cases c2 : q / 16 = b ∧ q % 16 < i
        · rw [if_pos c2, if_pos (by omega)]
        · rw [if_neg c2, if_neg (by omega)]
theorem cf_sw_v {wy : Nat → Int32} {a b y j : Nat} (hj : j < 16) : cf_sw wy a b 16 (16 * y + j) = if y = a then wy (16 * b + j) else if y = b then wy (16 * a + j) else wy (16 * y + j) := by
  unfold cf_sw
  rw [show (16 * y + j) / 16 = y from by omega, show (16 * y + j) % 16 = j from by omega]
  by_cases c1 : y = a
  · rw [if_pos ⟨c1, hj⟩, if_pos c1]
  · rw [if_neg (fun q => c1 q.1), if_neg c1]
    by_cases c2 : y = b
    · rw [if_pos ⟨c2, hj⟩, if_pos c2]
    · rw [if_neg (fun q => c2 q.1), if_neg c2]
theorem cf_yexch {post : Int32 → SY → Prop} {f0 : Int32} {s wy : Nat → Int32} {a b : Nat} (ha : a < 64) (hb : b < 64) (hp : post 0 (f0, s, cf_sw wy a b 16)) : ∃ n, wY_exchange_47 post (nI a) (nI b) f0 n 0 s wy := by
  have key : ∀ d i : Nat, i + d = 16 → wY_exchange_47 post (nI a) (nI b) f0 (d + 1) (nI i) s (cf_sw wy a b i) := by
    intro d
    induction d with
    | zero =>
      intro i hi
      have e : i = 16 := by omega
      subst e
      exact br_t (nI_le (a := 16) (by omega) (by omega)) hp
    | succ d ih =>
      intro i hi
      have t := ih (i + 1) (by omega)
      rw [← cf_sw_s (by omega)] at t
      refine br_f (nI_ge (b := 16) (by omega) (by decide)) ⟨cf_iyi (by omega), nm_r (e' := wy (16 * a + i)) ?_ ⟨cf_iyi (by omega), cf_iyi (by omega), nm_r (e' := upd (cf_sw wy a b i) (16 * a + i) (wy (16 * b + i))) ?_ ⟨cf_iyi (by omega), nm_r ?_ (nm_r (nI_1 i) t)⟩⟩⟩
      · rw [cf_iy (by omega), cf_sw_at (by omega)]
      · rw [cf_iy (by omega), cf_iy (by omega), cf_sw_at (by omega)]
      · rw [cf_iy (by omega)]
  have k0 := key 16 0 rfl
  rw [cf_sw_0] at k0
  exact ⟨17, k0⟩
theorem i_vc_exchange {k : Nat} {u : SX} {v : SY} (I : i_Rel k u v) (hk : k + 4 ≤ 2049) (v1 : Int32) (v2 : Int32) : wpX_exchange (fun r u' => wpY_exchange (fun r' v' => r' = r ∧ i_Rel (k + 4) u' v') v v1 v2) u v1 v2 := by
  obtain ⟨P, z, p, w, Ho, Pk, sp, wy, rfl, rfl, R⟩ := I
  have hz := R.1.2.2.1
  have hpl := R.1.2.2.2.1
  unfold wpX_exchange wpY_exchange
  dsimp only
  rcases cf_goods z v1 with ⟨a, ha, la, rfl⟩ | hb
  · rcases cf_goods z v2 with ⟨b, hb, lb, rfl⟩ | hb
    · have ea : (nI a).toNatClampNeg = a := nI_clamp (by omega)
      have eb : (nI b).toNatClampNeg = b := nI_clamp (by omega)
      have ia : vp_in (nI a) 64 := vp_in_nI ha (by decide)
      have ib : vp_in (nI b) 64 := vp_in_nI hb (by decide)
      refine cf_xgood_t ha la hz (br_f (by decide) (cf_xgood_t hb lb hz (br_f (by decide) ⟨ia, nm_r (cf_szI ha) ⟨ia, nm_r (cf_szI (z := p) ha) ⟨ib, ia, nm_r (e' := fun j => nI (cf_u z a (z b) j)) ?_ ⟨ib, nm_r (e' := fun j => nI (cf_u (cf_u z a (z b)) b (z a) j)) ?_ ⟨ib, ?_⟩⟩⟩⟩⟩)))
      · rw [ea, eb]; exact cf_uI z a (z b)
      · rw [eb]; exact cf_uI _ b (z a)
      rw [eb]
      refine cf_xput ha (hpl b) (cf_xput hb (hpl a) ?_)
      dsimp only [cf_S]
      refine cf_ygood ha la hz (br_t rfl (cf_ygood hb lb hz (br_t rfl ⟨ia, nm_r (cf_szI ha) ⟨ib, ia, nm_r (e' := fun j => nI (cf_u z a (z b) j)) ?_ ⟨ib, nm_r (e' := fun j => nI (cf_u (cf_u z a (z b)) b (z a) j)) ?_ (cf_yexch ha hb ⟨rfl, ?_⟩)⟩⟩⟩)))
      · rw [ea]; exact cf_uI z a (z b)
      · exact cf_uI _ b (z a)
      refine cf_rel (z := cf_u (cf_u z a (z b)) b (z a)) (p := cf_u (cf_u p a (p b)) b (p a)) ?_
      have X1 := cf_exX R.1 ha hb la lb
      refine ⟨cf_Xc X1 (fun y hy j hj => ?_), fun y hy j hj hzj => ?_, ?_⟩
      · have l16 := X1.2.2.1 y
        rw [X1.2.2.2.2.2.2 y hy j hj]
        show (if y = b then fun j => wy (16 * a + j) else if y = a then fun j => wy (16 * b + j) else fun j => wy (16 * y + j)) j = cf_sw wy a b 16 (16 * y + j)
        rw [cf_sw_v (by omega)]
        by_cases c2 : y = b
        · rw [if_pos c2]
          by_cases c1 : y = a
          · rw [if_pos c1, show a = b from by omega]
          · rw [if_neg c1, if_pos c2]
        · rw [if_neg c2]
          by_cases c1 : y = a
          · rw [if_pos c1, if_pos c1]
          · rw [if_neg c1, if_neg c1, if_neg c2]
      · rw [cf_sw_v hj]
        by_cases c2 : y = b
        · rw [c2, cf_us] at hzj
          by_cases c1 : y = a
          · rw [if_pos c1]
            exact R.2.1 b hb j hj (by rw [show b = a from by omega]; exact hzj)
          · rw [if_neg c1, if_pos c2]
            exact R.2.1 a ha j hj hzj
        · rw [cf_un c2] at hzj
          by_cases c1 : y = a
          · rw [c1, cf_us] at hzj
            rw [if_pos c1]
            exact R.2.1 b hb j hj hzj
          · rw [cf_un c1] at hzj
            rw [if_neg c1, if_neg c2]
            exact R.2.1 y hy j hj hzj
      · rw [cf_nd_congr (f' := cf_nk z) (fun c _ => cf_nk_ex ha hb)]
        exact R.2.2
    · exact cf_xgood_t ha la hz (br_f (by decide) (cf_xgood_f hb (br_t rfl (cf_ygood ha la hz (br_t rfl (cf_ybad hb (br_f (by decide) ⟨rfl, cf_rel R⟩)))))))
  · exact cf_xgood_f hb (br_t rfl (cf_ybad hb (br_f (by decide) ⟨rfl, cf_rel R⟩)))
/-- the words of an object lie in the store -/
theorem cf_end {P : Nat} {z p : Nat → Nat} {c : Nat → Nat → Int32} {w Ho Pk : Nat → Int32} (X : cf_X P z p c w Ho Pk) {h : Nat} (hh : h < 64) : p h + z h ≤ 192 := by
  obtain ⟨-, h2, hz, hp, J, -, -⟩ := X
  by_cases e : z h = 0
  · have := hp h; omega
  · have := cf_inst J.1 h2 hz hh (i := z h - 1) (by omega)
    omega
theorem cf_big {z : Nat → Nat} {k : Nat} : cf_nd (fun c => cf_nk z c + if c = k then 1 else 0) < 2 ^ 31 := by
  have := cf_ndbig (f := fun c => cf_nk z c + if c = k then 1 else 0) (fun c _ => by
    show cf_nk z c + (if c = k then 1 else 0) ≤ 200
    have := cf_nk64 z c
    split <;> omega)
  omega
/-- a new object with words v -/
theorem cf_Rnew {P : Nat} {z p : Nat → Nat} {w Ho Pk wy : Nat → Int32} (R : cf_R P z p w Ho Pk wy) {h n q : Nat} {Ho' Pk' wy' v : Nat → Int32} (hh : h < 64) (dh : z h = 0) (n1 : 0 < n)
    (hn : cf_nd (fun c => cf_nk z c + if c = cf_kd n then 1 else 0) ≤ P)
    (X' : cf_X P (cf_u z h n) (cf_u p h q) (fun y j => if y = h then w (q + j) else wy (16 * y + j)) w Ho' Pk')
    (hv : ∀ j, j < n → wy' (16 * h + j) = v j) (hv0 : ∀ j, n ≤ j → j < 16 → wy' (16 * h + j) = 0) (ho : ∀ y, y < 64 → y ≠ h → ∀ j, j < 16 → wy' (16 * y + j) = wy (16 * y + j)) :
    cf_R P (cf_u z h n) (cf_u p h q) (cf_wr w q v n) Ho' Pk' wy' := by
  obtain ⟨X, Z, N⟩ := R
  have zh : cf_u z h n h = n := cf_us
  have ph : cf_u p h q h = q := cf_us
  have hz := X'.2.2.1
  have W := cf_Xw (c' := fun h j => wy' (16 * h + j)) X' (x := h) (a := 0) (n := n) (v := v) hh (by omega)
    (fun j hj => by show wy' (16 * h + (0 + j)) = v j; rw [Nat.zero_add]; exact hv j hj)
    (fun j hj hor => by omega)
    (fun y hy ny j hj => by
      have ly := hz y
      show wy' (16 * y + j) = if y = h then w (q + j) else wy (16 * y + j)
      rw [if_neg ny]
      exact ho y hy ny j (by omega))
  rw [ph] at W
  refine ⟨W, fun y hy j hj hzj => ?_, ?_⟩
  · by_cases e : y = h
    · rw [e, cf_us] at hzj
      rw [e]
      exact hv0 j hzj hj
    · rw [cf_un e] at hzj
      rw [ho y hy e j hj]
      exact Z y hy j hj hzj
  · rw [cf_nd_congr (f' := fun c => cf_nk z c + if c = cf_kd n then 1 else 0) (fun c _ => cf_nk_put hh dh n1)]
    exact hn
theorem i_vc_allocate {k : Nat} {u : SX} {v : SY} (I : i_Rel k u v) (hk : k + 4 ≤ 2049) (v1 : Int32) : wpX_allocate (fun r u' => wpY_allocate (fun r' v' => r' = r ∧ i_Rel (k + 4) u' v') v v1) u v1 := by
  obtain ⟨P, z, p, w, Ho, Pk, sp, wy, rfl, rfl, R⟩ := I
  have hz := R.1.2.2.1
  have h2 := R.1.2.1
  unfold wpX_allocate
  dsimp only
  rcases cf_sizes v1 with ⟨n, n1, n16, rfl⟩ | hb
  · by_cases f : ∃ h, h < 64 ∧ z h = 0
    · obtain ⟨h, ⟨hh, dh⟩, ls⟩ := pk_least _ f
      have hl : ∀ j, j < h → z j ≠ 0 := fun j hj e => ls j hj ⟨by omega, e⟩
      have k4 := cf_kd4 n
      refine cf_xsize_t n1 n16 (br_f (by decide) (cf_xlf_t hh dh hz hl (br_f (cf_nm1 (by omega)) (cf_xkind n16 (cf_xneed hz (fun c hc e => absurd e.symm (cf_nm1 (by omega))) ?_)))))
      rw [cf_fk k4]
      by_cases l : cf_nd (fun c => cf_nk z c + if c = cf_kd n then 1 else 0) ≤ P
      · refine br_t (nI_le l (by omega)) (cf_xsettle R.1 hh dh n1 n16 l (fun q Ho' Pk' X' => ?_))
        have zh : cf_u z h n h = n := cf_us
        have ph : cf_u p h q h = q := cf_us
        refine cf_xrest (m := 0) hh (by decide) (X'.2.2.1 h) (cf_end X' hh) ?_
        rw [zh, ph]
        dsimp only [cf_S]
        refine cf_ya0 h2 n1 n16 hz hh dh hl l ⟨rfl, cf_rel (cf_Rnew R hh dh n1 l X' (fun j hj => ?_) (fun j h1 h2 => ?_) (fun y hy ny j hj => ?_))⟩
        · rw [cf_wr_in (by omega)]
          exact (if_neg (by omega)).symm
        · exact cf_wr_in h2
        · exact cf_wr_out (fun m hm => by omega)
      · exact br_f (nI_ge (by omega) cf_big) (cf_ya3 h2 n1 n16 hz hh dh hl (by omega) cf_big ⟨rfl, cf_rel R⟩)
    · have hl : ∀ j, j < 64 → z j ≠ 0 := fun j hj e => f ⟨j, hj, e⟩
      exact cf_xsize_t n1 n16 (br_f (by decide) (cf_xlf_f hz hl (br_t rfl (cf_ya2 n1 n16 hz hl ⟨rfl, cf_rel R⟩))))
  · exact cf_xsize_f hb (br_t rfl (cf_ya1 hb ⟨rfl, cf_rel R⟩))
/-- an object goes, on both sides -/
theorem cf_Rrm {P : Nat} {z p : Nat → Nat} {w Ho Pk wy : Nat → Int32} (R : cf_R P z p w Ho Pk wy) {h : Nat} {p' : Nat → Nat} {w' Ho' Pk' : Nat → Int32} (hh : h < 64) (lh : 0 < z h)
    (X' : cf_X P (cf_u z h 0) p' (fun h j => wy (16 * h + j)) w' Ho' Pk') : cf_R P (cf_u z h 0) p' w' Ho' Pk' (cf_wr wy (16 * h) (fun _ => 0) 16) := by
  obtain ⟨X, Z, N⟩ := R
  have hz := X'.2.2.1
  refine ⟨cf_Xc X' (fun y hy j hj => ?_), fun y hy j hj hzj => ?_, ?_⟩
  · have ly := hz y
    have ny : y ≠ h := by
      intro e
      rw [e, cf_us] at hj
      omega
    rw [X'.2.2.2.2.2.2 y hy j hj]
    exact (cf_wr_out (fun m hm => by omega)).symm
  · by_cases e : y = h
    · rw [e]; exact cf_wr_in hj
    · rw [cf_un e] at hzj
      rw [cf_wr_out (fun m hm => by omega)]
      exact Z y hy j hj hzj
  · refine Nat.le_trans (cf_nd_mono (fun c _ => ?_)) N
    have := cf_nk_rm (c := c) hh lh
    omega
theorem i_vc_free {k : Nat} {u : SX} {v : SY} (I : i_Rel k u v) (hk : k + 4 ≤ 2049) (v1 : Int32) : wpX_free (fun r u' => wpY_free (fun r' v' => r' = r ∧ i_Rel (k + 4) u' v') v v1) u v1 := by
  obtain ⟨P, z, p, w, Ho, Pk, sp, wy, rfl, rfl, R⟩ := I
  have hz := R.1.2.2.1
  unfold wpX_free wpY_free
  dsimp only
  rcases cf_goods z v1 with ⟨h, hh, lh, rfl⟩ | hb
  · refine cf_xgood_t hh lh hz (br_f (by decide) ⟨vp_in_nI hh (by decide), nm_r (cf_szI hh) (cf_xvac R.1 hh lh (fun p' w' Ho' Pk' X' => ?_))⟩)
    exact cf_ygood hh lh hz (br_t rfl ⟨vp_in_nI hh (by decide), nm_r (cf_szI hh) (cf_ywipe hh ⟨rfl, cf_rel (cf_Rrm R hh lh X')⟩)⟩)
  · exact cf_xgood_f hb (br_t rfl (cf_ybad hb (br_f (by decide) ⟨rfl, cf_rel R⟩)))
theorem cf_ycopy {post : Int32 → SY → Prop} {f0 : Int32} {s wy : Nat → Int32} {a b : Nat} (ha : a < 64) (hb : b < 64) (n : a ≠ b) (hp : post (nI b) (f0, s, cf_wr wy (16 * b) (fun k => wy (16 * a + k)) 16)) : ∃ n, wY_copy_29 post (nI a) (nI b) f0 n 0 s wy := by
  have key : ∀ d i : Nat, i + d = 16 → wY_copy_29 post (nI a) (nI b) f0 (d + 1) (nI i) s (cf_wr wy (16 * b) (fun k => wy (16 * a + k)) i) := by
    intro d
    induction d with
    | zero =>
      intro i hi
      have e : i = 16 := by omega
      subst e
      exact br_t (nI_le (a := 16) (by omega) (by omega)) hp
    | succ d ih =>
      intro i hi
      have t := ih (i + 1) (by omega)
      rw [← cf_wr_s] at t
      refine br_f (nI_ge (b := 16) (by omega) (by decide)) ⟨cf_iyi (by omega), cf_iyi (by omega), nm_r ?_ (nm_r (nI_1 i) t)⟩
      rw [cf_iy (by omega), cf_iy (by omega), cf_wr_out (fun m hm => by omega)]
  have k0 := key 16 0 rfl
  rw [cf_wr_0] at k0
  exact ⟨17, k0⟩
theorem i_vc_copy {k : Nat} {u : SX} {v : SY} (I : i_Rel k u v) (hk : k + 4 ≤ 2049) (v1 : Int32) : wpX_copy (fun r u' => wpY_copy (fun r' v' => r' = r ∧ i_Rel (k + 4) u' v') v v1) u v1 := by
  obtain ⟨P, z, p, w, Ho, Pk, sp, wy, rfl, rfl, R⟩ := I
  have hz := R.1.2.2.1
  have h2 := R.1.2.1
  unfold wpX_copy wpY_copy
  dsimp only
  rcases cf_goods z v1 with ⟨h, hh, lh, rfl⟩ | hb
  · have l16 := hz h
    have eh : (nI h).toNatClampNeg = h := nI_clamp (by omega)
    have ih : vp_in (nI h) 64 := vp_in_nI hh (by decide)
    by_cases f : ∃ t, t < 64 ∧ z t = 0
    · obtain ⟨t, ⟨ht, dt⟩, ls⟩ := pk_least _ f
      have hl : ∀ j, j < t → z j ≠ 0 := fun j hj e => ls j hj ⟨by omega, e⟩
      have et : (nI t).toNatClampNeg = t := nI_clamp (by omega)
      have nt : h ≠ t := fun e => by rw [e] at lh; omega
      have k4 := cf_kd4 (z h)
      refine cf_xgood_t hh lh hz (br_f (by decide) (cf_xlf_t ht dt hz hl (br_f (cf_nm1 (by omega)) ⟨ih, nm_r (cf_szI hh) (cf_xkind l16 (cf_xneed hz (fun c hc e => absurd e.symm (cf_nm1 (by omega))) ?_))⟩)))
      rw [cf_fk k4, eh]
      by_cases l : cf_nd (fun c => cf_nk z c + if c = cf_kd (z h) then 1 else 0) ≤ P
      · refine br_t (nI_le l (by omega)) (cf_xsettle R.1 ht dt lh l16 l (fun q Ho' Pk' X' => ⟨ih, vp_in_nI ht (by decide), ?_⟩))
        have zt : cf_u z t (z h) t = z h := cf_us
        have pt : cf_u p t q t = q := cf_us
        have zh : cf_u z t (z h) h = z h := cf_un nt
        have ph : cf_u p t q h = p h := cf_un nt
        dsimp only [cf_S]
        rw [et, pt, ph]
        have A1 := cf_end X' hh
        have A2 := cf_end X' ht
        rw [zh, ph] at A1
        rw [zt, pt] at A2
        refine cf_xcopyw A1 A2 (fun i j hi hj => ?_) ?_
        · have d := cf_dis X'.2.2.2.2.1.1 X'.2.2.1 hh ht nt (i := i) (j := j) (by omega) (by omega)
          rw [ph, pt] at d
          exact d
        · dsimp only [cf_S]
          refine cf_ygood hh lh hz (br_t rfl ⟨ih, cf_ya0 h2 lh l16 hz ht dt hl l (br_t (nI_pos' (by omega)) (cf_ycopy hh ht nt ⟨rfl, cf_rel (cf_Rnew R ht dt lh l X' (fun j hj => ?_) (fun j h1 h2 => ?_) (fun y hy ny j hj => ?_))⟩))⟩)
          · rw [cf_wr_in (by omega)]
            show cf_wr wy (16 * t) (fun _ => 0) 16 (16 * h + j) = _
            rw [cf_wr_out (fun m hm => by omega)]
            exact (R.1.2.2.2.2.2.2 h hh j hj).symm
          · rw [cf_wr_in (by omega)]
            show cf_wr wy (16 * t) (fun _ => 0) 16 (16 * h + j) = _
            rw [cf_wr_out (fun m hm => by omega)]
            exact R.2.1 h hh j h2 h1
          · rw [cf_wr_out (fun m hm => by omega)]
            show cf_wr wy (16 * t) (fun _ => 0) 16 (16 * y + j) = _
            rw [cf_wr_out (fun m hm => by omega)]
      · exact br_f (nI_ge (by omega) cf_big) (cf_ygood hh lh hz (br_t rfl ⟨ih, cf_ya3 h2 lh l16 hz ht dt hl (by omega) cf_big (br_f (by decide) ⟨rfl, cf_rel R⟩)⟩))
    · have hl : ∀ j, j < 64 → z j ≠ 0 := fun j hj e => f ⟨j, hj, e⟩
      refine cf_xgood_t hh lh hz (br_f (by decide) (cf_xlf_f hz hl (br_t rfl (cf_ygood hh lh hz (br_t rfl ⟨ih, ?_⟩)))))
      rw [eh]
      exact cf_ya2 lh l16 hz hl (br_f (by decide) ⟨rfl, cf_rel R⟩)
  · exact cf_xgood_f hb (br_t rfl (cf_ybad hb (br_f (by decide) ⟨rfl, cf_rel R⟩)))
theorem cf_yres {post : Int32 → SY → Prop} {f0 x5 : Int32} {z : Nat → Nat} {wy : Nat → Int32} {h n : Nat} (hh : h < 64) (n16 : n ≤ 16)
    (hp : post x5 (cf_T f0 (cf_u z h n) (cf_wr wy (16 * h + n) (fun _ => 0) (16 - n)))) : ∃ m, wY_resize_72 post (nI h) (nI n) x5 f0 m (nI n) (fun j => nI (z j)) wy := by
  have key : ∀ d e : Nat, n + e + d = 16 → wY_resize_72 post (nI h) (nI n) x5 f0 (d + 1) (nI (n + e)) (fun j => nI (z j)) (cf_wr wy (16 * h + n) (fun _ => 0) e) := by
    intro d
    induction d with
    | zero =>
      intro e he
      refine br_t (nI_le (a := 16) (by omega) (by omega)) ⟨vp_in_nI hh (by decide), nm_r (e' := fun j => nI (cf_u z h n j)) ?_ ?_⟩
      · rw [nI_clamp (by omega)]; exact cf_uI z h n
      · rw [show e = 16 - n from by omega]; exact hp
    | succ d ih =>
      intro e he
      have t := ih (e + 1) (by omega)
      rw [← cf_wr_s, ← Nat.add_assoc] at t
      refine br_f (nI_ge (b := 16) (by omega) (by decide)) ⟨cf_iyi (by omega), nm_r ?_ (nm_r (nI_1 _) t)⟩
      rw [cf_iy (by omega), Nat.add_assoc]
  have k0 := key (16 - n) 0 (by omega)
  rw [cf_wr_0] at k0
  exact ⟨16 - n + 1, k0⟩
theorem i_vc_resize {k : Nat} {u : SX} {v : SY} (I : i_Rel k u v) (hk : k + 4 ≤ 2049) (v1 : Int32) (v2 : Int32) : wpX_resize (fun r u' => wpY_resize (fun r' v' => r' = r ∧ i_Rel (k + 4) u' v') v v1 v2) u v1 v2 := by
  obtain ⟨P, z, p, w, Ho, Pk, sp, wy, rfl, rfl, R⟩ := I
  have hz := R.1.2.2.1
  have h2 := R.1.2.1
  unfold wpX_resize wpY_resize
  dsimp only
  rcases cf_goods z v1 with ⟨h, hh, lh, rfl⟩ | hb
  · have l16 := hz h
    have eh : (nI h).toNatClampNeg = h := nI_clamp (by omega)
    have ih : vp_in (nI h) 64 := vp_in_nI hh (by decide)
    rcases cf_sizes v2 with ⟨n, n1, n16, rfl⟩ | hb
    · have k4 := cf_kd4 n
      have j4 := cf_kd4 (z h)
      have cond : ∀ c, c < 4 → nI (cf_kd (z h)) = nI c → 1 ≤ cf_nk z c := by
        intro c hc e
        have e2 := cf_inj (by omega) (by omega) e
        rw [← e2]
        exact cf_cn_in (p := fun i => 0 < z i ∧ cf_kd (z i) = cf_kd (z h)) hh ⟨lh, rfl⟩
      have eF : ∀ c, c < 4 → cf_nk z c + cf_am (nI (cf_kd n)) c 1 - cf_am (nI (cf_kd (z h))) c 1 = cf_nk (cf_u z h 0) c + if c = cf_kd n then 1 else 0 := by
        intro c hc
        have a := cf_nk_rm (c := c) hh lh
        rw [cf_am_k k4 hc, cf_am_k j4 hc]
        omega
      have eN := cf_nd_congr eF
      have big : cf_nd (fun c => cf_nk (cf_u z h 0) c + if c = cf_kd n then 1 else 0) < 2 ^ 31 := cf_big
      refine cf_xgood_t hh lh hz (br_f (by decide) (cf_xsize_t n1 n16 (br_f (by decide) ⟨ih, nm_r (cf_szI hh) (cf_xkind l16 (cf_xkind n16 (cf_xneed hz cond ?_)))⟩)))
      rw [eN]
      by_cases l : cf_nd (fun c => cf_nk (cf_u z h 0) c + if c = cf_kd n then 1 else 0) ≤ P
      · refine br_t (nI_le l (by omega)) (cf_xkeep hh l16 (cf_end R.1 hh) (cf_xvac R.1 hh lh (fun p' w' Ho' Pk' X' => cf_xsettle X' hh cf_us n1 n16 l (fun q Ho'' Pk'' X'' => cf_xrest hh l16 (X''.2.2.1 h) (cf_end X'' hh) ?_))))
        have zh : cf_u (cf_u z h 0) h n h = n := cf_us
        have ph : cf_u p' h q h = q := cf_us
        rw [zh, ph]
        dsimp only [cf_S]
        refine cf_ygood hh lh hz (br_t rfl (br_f (nI_nlt (b := 1) n1 (by omega)) (br_t (nI_le (b := 16) n16 (by decide)) (cf_ykind n16 ⟨ih, ?_⟩))))
        rw [eh]
        refine cf_ykind l16 (cf_yneed (m := 1) (l := 1) (by decide) (by decide) hz cond ?_)
        rw [eN]
        refine br_t (nI_le l (by omega)) ⟨ih, nm_e (cf_yres hh n16 ⟨rfl, ?_⟩)⟩
        have R1 := cf_Rrm R hh lh X'
        have R2 := cf_Rnew (wy' := cf_wr wy (16 * h + n) (fun _ => 0) (16 - n)) (v := fun k => if k < z h then cf_wr sp 0 (fun k => w (p h + k)) (z h) k else 0) R1 hh cf_us n1 l (q := q) (Ho' := Ho'') (Pk' := Pk'')
          (cf_Xc X'' (fun y hy j hj => by
            have ly := X''.2.2.1 y
            rw [X''.2.2.2.2.2.2 y hy j hj]
            show (if y = h then w' (q + j) else wy (16 * y + j)) = if y = h then w' (q + j) else cf_wr wy (16 * h) (fun _ => 0) 16 (16 * y + j)
            by_cases e : y = h
            · rw [if_pos e, if_pos e]
            · rw [if_neg e, if_neg e, cf_wr_out (fun m hm => by omega)]))
          (fun j hj => by
            show cf_wr wy (16 * h + n) (fun _ => 0) (16 - n) (16 * h + j) = if j < z h then cf_wr sp 0 (fun k => w (p h + k)) (z h) j else 0
            rw [cf_wr_out (fun m hm => by omega)]
            by_cases e : j < z h
            · have e0 := cf_wr_in (w := sp) (b := 0) (v := fun k => w (p h + k)) e
              rw [Nat.zero_add] at e0
              rw [if_pos e, e0]
              exact (R.1.2.2.2.2.2.2 h hh j e).symm
            · rw [if_neg e]
              exact R.2.1 h hh j (by omega) (by omega))
          (fun j h1 h2 => by
            obtain ⟨m, rfl⟩ : ∃ m, j = n + m := ⟨j - n, by omega⟩
            rw [← Nat.add_assoc]
            exact cf_wr_in (by omega))
          (fun y hy ny j hj => by
            rw [cf_wr_out (fun m hm => by omega), cf_wr_out (fun m hm => by omega)])
        rw [cf_uu] at R2
        rw [cf_uu]
        exact cf_rel R2
      · refine br_f (nI_ge (by omega) big) (cf_ygood hh lh hz (br_t rfl (br_f (nI_nlt (b := 1) n1 (by omega)) (br_t (nI_le (b := 16) n16 (by decide)) (cf_ykind n16 ⟨ih, ?_⟩)))))
        rw [eh]
        refine cf_ykind l16 (cf_yneed (m := 1) (l := 1) (by decide) (by decide) hz cond ?_)
        rw [eN]
        exact br_f (nI_ge (by omega) big) ⟨rfl, cf_rel R⟩
    · refine cf_xgood_t hh lh hz (br_f (by decide) (cf_xsize_f hb (br_t rfl (cf_ygood hh lh hz (br_t rfl (br_c (fun _ => ⟨rfl, cf_rel R⟩) (fun n => br_f ?_ ⟨rfl, cf_rel R⟩)))))))
      exact Int32.not_le.mpr (hb.resolve_left n)
  · exact cf_xgood_f hb (br_t rfl (cf_ybad hb (br_f (by decide) ⟨rfl, cf_rel R⟩)))
end
section
/-! freeClass -/
def cf_fc (z : Nat → Nat) (k i : Nat) : Nat → Nat := fun h => if h < i ∧ cf_kd (z h) = k then 0 else z h
def cf_fy (z : Nat → Nat) (k : Nat) (wy : Nat → Int32) (i : Nat) : Nat → Int32 := fun q => if q / 16 < i ∧ 0 < z (q / 16) ∧ cf_kd (z (q / 16)) = k then 0 else wy q
theorem cf_fc_0 (z : Nat → Nat) (k : Nat) : cf_fc z k 0 = z := by
  funext h
  exact if_neg (by omega)
theorem cf_fc_at (z : Nat → Nat) (k i : Nat) : cf_fc z k i i = z i := if_neg (fun q => Nat.lt_irrefl i q.1)
theorem cf_fc_s1 {z : Nat → Nat} {k i : Nat} (e : cf_kd (z i) = k) : cf_u (cf_fc z k i) i 0 = cf_fc z k (i + 1) := by
  funext h
  by_cases q : h = i
  · rw [q, cf_us]
    exact (if_pos ⟨Nat.lt_succ_self i, e⟩).symm
  · rw [cf_un q]
    unfold cf_fc
    by_cases c : h < i ∧ cf_kd (z h) = k
    · rw [if_pos c, if_pos ⟨by omega, c.2⟩]
    · rw [if_neg c, if_neg (fun r => c ⟨by omega, r.2⟩)]
theorem cf_fc_s0 {z : Nat → Nat} {k i : Nat} (e : ¬ (0 < z i ∧ cf_kd (z i) = k)) : cf_fc z k (i + 1) = cf_fc z k i := by
  funext h
  unfold cf_fc
  by_cases c : h < i ∧ cf_kd (z h) = k
  · rw [if_pos c, if_pos ⟨by omega, c.2⟩]
  · rw [if_neg c]
    by_cases d : h < i + 1 ∧ cf_kd (z h) = k
    · rw [if_pos d]
      have q : h = i := by
        by_cases r : h = i
        · exact r
        · exact absurd ⟨by omega, d.2⟩ c
      rw [q] at d ⊢
      by_cases z0 : z i = 0
      · exact z0.symm
      · exact absurd ⟨by omega, d.2⟩ e
    · rw [if_neg d]
theorem cf_fy_0 (z : Nat → Nat) (k : Nat) (wy : Nat → Int32) : cf_fy z k wy 0 = wy := by
  funext h
  exact if_neg (by omega)
theorem cf_fy_s1 {z : Nat → Nat} {k : Nat} {wy : Nat → Int32} {i : Nat} (e : 0 < z i ∧ cf_kd (z i) = k) : cf_wr (cf_fy z k wy i) (16 * i) (fun _ => 0) 16 = cf_fy z k wy (i + 1) := by
  funext q
  unfold cf_wr cf_fy
  by_cases r : 16 * i ≤ q ∧ q < 16 * i + 16
  · rw [if_pos r, show q / 16 = i from by omega, if_pos ⟨by omega, e⟩]
  · rw [if_neg r]
    by_cases c : q / 16 < i ∧ 0 < z (q / 16) ∧ cf_kd (z (q / 16)) = k
    · rw [if_pos c, if_pos ⟨by omega, c.2⟩]
    · rw [if_neg c, if_neg (fun d => c ⟨by omega, d.2⟩)]
theorem cf_fy_s0 {z : Nat → Nat} {k : Nat} {wy : Nat → Int32} {i : Nat} (e : ¬ (0 < z i ∧ cf_kd (z i) = k)) : cf_fy z k wy (i + 1) = cf_fy z k wy i := by
  funext q
  unfold cf_fy
  by_cases c : q / 16 < i ∧ 0 < z (q / 16) ∧ cf_kd (z (q / 16)) = k
  · rw [if_pos c, if_pos ⟨by omega, c.2⟩]
  · rw [if_neg c, if_neg (fun d => ?_)]
    by_cases r : q / 16 = i
    · rw [r] at d
      exact e d.2
    · exact c ⟨by omega, d.2⟩
theorem cf_xfc {post : Int32 → SX → Prop} {P k : Nat} {z p : Nat → Nat} {c : Nat → Nat → Int32} {w Ho Pk sp : Nat → Int32} (X : cf_X P z p c w Ho Pk) (hk : k < 4)
    (hp : ∀ p' w' Ho' Pk', cf_X P (cf_fc z k 64) p' c w' Ho' Pk' → post (nI (cf_nk z k)) (cf_S (nI P) w' Ho' (cf_fc z k 64) p' Pk' sp)) :
    ∃ n, wX_freeClass_13 post (nI k) n 0 0 (nI P) w Ho (fun j => nI (z j)) (fun j => nI (p j)) Pk sp := by
  have key : ∀ d i : Nat, i + d = 64 → ∀ (p' : Nat → Nat) (w' Ho' Pk' : Nat → Int32), cf_X P (cf_fc z k i) p' c w' Ho' Pk' →
      wX_freeClass_13 post (nI k) (d + 1) (nI (cf_cn (fun h => 0 < z h ∧ cf_kd (z h) = k) i)) (nI i) (nI P) w' Ho' (fun j => nI (cf_fc z k i j)) (fun j => nI (p' j)) Pk' sp := by
    intro d
    induction d with
    | zero =>
      intro i hi p' w' Ho' Pk' X'
      have e : i = 64 := by omega
      subst e
      exact br_t (nI_le (a := 64) (by omega) (by omega)) (hp _ _ _ _ X')
    | succ d ih =>
      intro i hi p' w' Ho' Pk' X'
      have t := ih (i + 1) (by omega)
      rw [cf_cn_s] at t
      have at_i := cf_fc_at z k i
      refine br_f (nI_ge (b := 64) (by omega) (by decide)) ?_
      by_cases e : 0 < z i ∧ cf_kd (z i) = k
      · rw [cf_bt e] at t
        refine cf_xok_t (by omega) X'.2.2.1 (by rw [at_i]; exact e) (br_f (by decide) (cf_xvac X' (by omega) (by rw [at_i]; exact e.1) (fun p1 w1 Ho1 Pk1 X1 => ?_)))
        rw [cf_fc_s1 e.2] at X1 ⊢
        exact nm_r (nI_1 _) (nm_r (nI_1 i) (t _ _ _ _ X1))
      · rw [cf_bf e, cf_fc_s0 e] at t
        exact cf_xok_f (by omega) X'.2.2.1 hk (by rw [at_i]; exact e) (br_t rfl (nm_r (nI_1 i) (t _ _ _ _ X')))
  have k0 := key 64 0 rfl p w Ho Pk (by rw [cf_fc_0]; exact X)
  rw [cf_fc_0] at k0
  exact ⟨65, k0⟩
theorem cf_yfc {post : Int32 → SY → Prop} {f0 : Int32} {k : Nat} {z : Nat → Nat} {wy : Nat → Int32} (hk : k < 4) (hz : ∀ j, z j ≤ 16)
    (hp : post (nI (cf_nk z k)) (cf_T f0 (cf_fc z k 64) (cf_fy z k wy 64))) : ∃ n, wY_freeClass_15 post (nI k) n 0 0 f0 (fun j => nI (z j)) wy := by
  have key : ∀ d i : Nat, i + d = 64 → wY_freeClass_15 post (nI k) (d + 1) (nI (cf_cn (fun h => 0 < z h ∧ cf_kd (z h) = k) i)) (nI i) f0 (fun j => nI (cf_fc z k i j)) (cf_fy z k wy i) := by
    intro d
    induction d with
    | zero =>
      intro i hi
      have e : i = 64 := by omega
      subst e
      exact br_t (nI_le (a := 64) (by omega) (by omega)) hp
    | succ d ih =>
      intro i hi
      have t := ih (i + 1) (by omega)
      rw [cf_cn_s] at t
      have l16 := hz i
      have k4 := cf_kd4 (z i)
      refine br_f (nI_ge (b := 64) (by omega) (by decide)) ⟨vp_in_nI (by omega) (by decide), ?_⟩
      rw [nI_clamp (by omega)]
      dsimp only
      rw [cf_fc_at]
      by_cases e0 : z i = 0
      · have e : ¬ (0 < z i ∧ cf_kd (z i) = k) := fun q => by omega
        rw [cf_bf e, cf_fc_s0 e, cf_fy_s0 e] at t
        exact br_t (show nI (z i) ≤ 0 from by rw [e0]; decide) (nm_r (nI_1 i) t)
      · refine br_f (nI_nle (n := z i) (by omega) (by omega)) ⟨vp_in_nI (by omega) (by decide), cf_ykind (n := z i) l16 ?_⟩
        by_cases ek : cf_kd (z i) = k
        · have e : 0 < z i ∧ cf_kd (z i) = k := ⟨by omega, ek⟩
          rw [cf_bt e, ← cf_fc_s1 ek, ← cf_fy_s1 e] at t
          exact br_t (by rw [ek]) (cf_ywipe (by omega) (nm_r (nI_1 _) (nm_r (nI_1 i) t)))
        · have e : ¬ (0 < z i ∧ cf_kd (z i) = k) := fun q => ek q.2
          rw [cf_bf e, cf_fc_s0 e, cf_fy_s0 e] at t
          exact br_f (fun q => ek (cf_inj (by omega) (by omega) q)) (nm_r (nI_1 i) t)
  have k0 := key 64 0 rfl
  rw [cf_fc_0, cf_fy_0] at k0
  exact ⟨65, k0⟩
theorem cf_cn_mono {p q : Nat → Prop} {n : Nat} (h : ∀ i, i < n → p i → q i) : cf_cn p n ≤ cf_cn q n :=
  cf_cn_inj p (fun i => i) n n q (fun i hi hp => ⟨hi, h i hi hp⟩) (fun _ _ _ _ _ _ e => e)
theorem i_vc_freeClass {k : Nat} {u : SX} {v : SY} (I : i_Rel k u v) (hk : k + 4 ≤ 2049) (v1 : Int32) : wpX_freeClass (fun r u' => wpY_freeClass (fun r' v' => r' = r ∧ i_Rel (k + 4) u' v') v v1) u v1 := by
  obtain ⟨P, z, p, w, Ho, Pk, sp, wy, rfl, rfl, R⟩ := I
  have hz := R.1.2.2.1
  unfold wpX_freeClass wpY_freeClass
  dsimp only
  rcases cf_kinds v1 with ⟨c, hc, rfl⟩ | hb
  · refine cf_xisk_t hc (br_f (by decide) (cf_xfc R.1 hc (fun p' w' Ho' Pk' X' => ?_)))
    refine br_f (nI_pos (by omega)) (br_t (nI_le (b := 3) (by omega) (by decide)) (cf_yfc hc hz ⟨rfl, cf_rel (z := cf_fc z c 64) (p := p') ⟨?_, ?_, ?_⟩⟩))
    · refine cf_Xc X' (fun y hy j hj => ?_)
      have ly := X'.2.2.1 y
      rw [X'.2.2.2.2.2.2 y hy j hj]
      show wy (16 * y + j) = cf_fy z c wy 64 (16 * y + j)
      unfold cf_fy
      rw [show (16 * y + j) / 16 = y from by omega, if_neg (fun q => ?_)]
      have e : cf_fc z c 64 y = 0 := if_pos ⟨hy, q.2.2⟩
      omega
    · intro y hy j hj hzj
      unfold cf_fy
      rw [show (16 * y + j) / 16 = y from by omega]
      by_cases q : y < 64 ∧ 0 < z y ∧ cf_kd (z y) = c
      · rw [if_pos q]
      · rw [if_neg q]
        refine R.2.1 y hy j hj ?_
        by_cases q2 : cf_kd (z y) = c
        · by_cases z0 : z y = 0
          · omega
          · exact absurd ⟨hy, by omega, q2⟩ q
        · have e : cf_fc z c 64 y = z y := if_neg (fun r => q2 r.2)
          omega
    · refine Nat.le_trans (cf_nd_mono (fun k _ => cf_cn_mono (fun i hi q => ?_))) R.2.2
      have q1 : 0 < cf_fc z c 64 i ∧ cf_kd (cf_fc z c 64 i) = k := q
      by_cases q2 : cf_kd (z i) = c
      · have e : cf_fc z c 64 i = 0 := if_pos ⟨hi, q2⟩
        omega
      · have e : cf_fc z c 64 i = z i := if_neg (fun r => q2 r.2)
        rw [e] at q1
        exact q1
  · refine cf_xisk_f hb (br_t rfl (br_c (fun _ => ⟨rfl, cf_rel R⟩) (fun n => br_f (fun q => ?_) ⟨rfl, cf_rel R⟩)))
    exact absurd (Int32.le_trans (hb.resolve_left n) q) (by decide)
end
