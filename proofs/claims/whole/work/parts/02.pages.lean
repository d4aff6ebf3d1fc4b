/-! the pages: who lies where (cf_AB), how full they are (cf_CD) -/
noncomputable def cf_hl (Ho : Nat → Int32) (g : Nat) : Nat := cf_cn (fun i => Ho (16 * g + i) ≠ -1) 16
def cf_A (P : Nat) (z p : Nat → Nat) (Ho Pk : Nat → Int32) : Prop :=
  ∀ h, h < 64 → 0 < z h → Ho (p h) = nI h ∧ Pk (p h / 16) = nI (cf_kd (z h)) ∧ p h % cf_wd (cf_kd (z h)) = 0 ∧ p h < 16 * P
def cf_Bk (z p : Nat → Nat) (Ho : Nat → Int32) : Prop :=
  ∀ q, q < 192 → Ho q ≠ -1 → ∃ h, h < 64 ∧ 0 < z h ∧ Ho q = nI h ∧ p h = q
def cf_C1 (P : Nat) (Pk : Nat → Int32) : Prop := ∀ g, g < P → Pk g ≠ -1 → ∃ k, k < 4 ∧ Pk g = nI k
def cf_AB (P : Nat) (z p : Nat → Nat) (Ho Pk : Nat → Int32) : Prop := cf_A P z p Ho Pk ∧ cf_Bk z p Ho ∧ cf_C1 P Pk
def cf_CD (P : Nat) (H : Nat → Nat) (Pk : Nat → Int32) : Prop :=
  (∀ g, g < P → Pk g ≠ -1 → 0 < H g) ∧
  (∀ g g' k, g < P → g' < P → k < 4 → Pk g = nI k → Pk g' = nI k → H g < cf_pr k → H g' < cf_pr k → g = g')
/-- two live objects never begin at one place -/
theorem cf_pne {P : Nat} {z p : Nat → Nat} {Ho Pk : Nat → Int32} (A : cf_A P z p Ho Pk) {x y : Nat} (hx : x < 64) (hy : y < 64) (lx : 0 < z x) (ly : 0 < z y) (n : x ≠ y) : p x ≠ p y := by
  intro e
  have a := (A x hx lx).1
  have b := (A y hy ly).1
  rw [e, b] at a
  exact n (cf_inj (by omega) (by omega) a).symm
theorem cf_inpg {k q i : Nat} (hk : k < 4) (hq : q % cf_wd k = 0) (hi : i < cf_wd k) : (q + i) / 16 = q / 16 := by
  rcases cf_4 hk with rfl | rfl | rfl | rfl
  · rw [show cf_wd 0 = 2 from rfl] at hq hi; omega
  · rw [show cf_wd 1 = 4 from rfl] at hq hi; omega
  · rw [show cf_wd 2 = 8 from rfl] at hq hi; omega
  · rw [show cf_wd 3 = 16 from rfl] at hq hi; omega
theorem cf_apart {k a b i j : Nat} (hk : k < 4) (ha : a % cf_wd k = 0) (hb : b % cf_wd k = 0) (n : a ≠ b) (hi : i < cf_wd k) (hj : j < cf_wd k) : a + i ≠ b + j := by
  rcases cf_4 hk with rfl | rfl | rfl | rfl
  · rw [show cf_wd 0 = 2 from rfl] at ha hb hi hj; omega
  · rw [show cf_wd 1 = 4 from rfl] at ha hb hi hj; omega
  · rw [show cf_wd 2 = 8 from rfl] at ha hb hi hj; omega
  · rw [show cf_wd 3 = 16 from rfl] at ha hb hi hj; omega
/-- the words of a slot at q, of the class of its page, are no words of a live object elsewhere -/
theorem cf_dq {P : Nat} {z p : Nat → Nat} {Ho Pk : Nat → Int32} (A : cf_A P z p Ho Pk) (hz : ∀ h, z h ≤ 16) {y q k : Nat} (hy : y < 64) (ly : 0 < z y) (hk : k < 4) (hq : q % cf_wd k = 0) (hp : Pk (q / 16) = nI k) (n : q ≠ p y) {i j : Nat} (hi : i < cf_wd k) (hj : j < z y) : q + i ≠ p y + j := by
  obtain ⟨-, a2, a3, -⟩ := A y hy ly
  have f := cf_fit (z y) (by have := hz y; omega)
  have k2 := cf_kd4 (z y)
  by_cases e : q / 16 = p y / 16
  · rw [e, a2] at hp
    have ek : cf_kd (z y) = k := cf_inj (by omega) (by omega) hp
    rw [ek] at a3 f
    exact cf_apart hk hq a3 n hi (by omega)
  · have b1 := cf_inpg hk hq hi
    have b2 := cf_inpg k2 a3 (i := j) (by omega)
    intro w
    rw [w, b2] at b1
    exact e b1.symm
theorem cf_dis {P : Nat} {z p : Nat → Nat} {Ho Pk : Nat → Int32} (A : cf_A P z p Ho Pk) (hz : ∀ h, z h ≤ 16) {x y : Nat} (hx : x < 64) (hy : y < 64) (n : x ≠ y) {i j : Nat} (hi : i < z x) (hj : j < z y) : p x + i ≠ p y + j := by
  obtain ⟨-, a2, a3, -⟩ := A x hx (by omega)
  have f := cf_fit (z x) (by have := hz x; omega)
  exact cf_dq A hz hy (by omega) (cf_kd4 _) a3 a2 (cf_pne A hx hy (by omega) (by omega) n) (by omega) hj
/-- all words of an object lie in the store -/
theorem cf_inst {P : Nat} {z p : Nat → Nat} {Ho Pk : Nat → Int32} (A : cf_A P z p Ho Pk) (hP : P ≤ 12) (hz : ∀ h, z h ≤ 16) {x i : Nat} (hx : x < 64) (hi : i < z x) : p x + i < 192 := by
  obtain ⟨-, -, a3, a4⟩ := A x hx (by omega)
  have f := cf_fit (z x) (by have := hz x; omega)
  have b := cf_inpg (cf_kd4 _) a3 (i := i) (by omega)
  omega
/-! how full a page is -/
theorem cf_hl_o {Ho : Nat → Int32} {q g : Nat} {x : Int32} (h : q / 16 ≠ g) : cf_hl (upd Ho q x) g = cf_hl Ho g := by
  unfold cf_hl
  refine cf_cn_congr (fun i hi => ?_)
  show (upd Ho q x (16 * g + i) ≠ -1) ↔ (Ho (16 * g + i) ≠ -1)
  rw [cf_vn (by omega)]
theorem cf_hl_at {Ho : Nat → Int32} {q g : Nat} {x : Int32} (h : q / 16 = g) : cf_hl (upd Ho q x) g + cf_b (Ho q ≠ -1) = cf_hl Ho g + cf_b (x ≠ -1) := by
  have e : cf_cn (fun i => upd Ho q x (16 * g + i) ≠ -1) 16 + cf_b (Ho (16 * g + q % 16) ≠ -1)
      = cf_cn (fun i => Ho (16 * g + i) ≠ -1) 16 + cf_b (upd Ho q x (16 * g + q % 16) ≠ -1) :=
    cf_cn_pt (p := fun i => Ho (16 * g + i) ≠ -1) (q := fun i => upd Ho q x (16 * g + i) ≠ -1) (k := q % 16) (n := 16) (by omega)
      (fun i _ hn => by
        show (upd Ho q x (16 * g + i) ≠ -1) ↔ (Ho (16 * g + i) ≠ -1)
        rw [cf_vn (by omega)])
  rw [show 16 * g + q % 16 = q from by omega, cf_vs] at e
  exact e
theorem cf_hl_c {Ho Ho' : Nat → Int32} {g : Nat} (h : ∀ q, q / 16 = g → (Ho' q ≠ -1 ↔ Ho q ≠ -1)) : cf_hl Ho' g = cf_hl Ho g := by
  unfold cf_hl
  exact cf_cn_congr (fun i hi => h _ (by omega))
theorem cf_hl_in {Ho : Nat → Int32} {q g : Nat} (h : q / 16 = g) (n : Ho q ≠ -1) : 0 < cf_hl Ho g := by
  unfold cf_hl
  refine cf_cn_in (i := q % 16) (by omega) ?_
  rw [show 16 * g + q % 16 = q from by omega]
  exact n
theorem cf_hl_pos {Ho : Nat → Int32} {g : Nat} (h : 0 < cf_hl Ho g) : ∃ q, q / 16 = g ∧ Ho q ≠ -1 := by
  obtain ⟨i, hi, e⟩ := cf_cn_pos h
  exact ⟨16 * g + i, by omega, e⟩
/-- a page that isn't full has a free slot -/
theorem cf_hole {Ho : Nat → Int32} {g k : Nat} (hk : k < 4) (h : cf_hl Ho g < cf_pr k) : ∃ s, s < cf_pr k ∧ Ho (16 * g + s * cf_wd k) = -1 := by
  by_cases e : ∃ s, s < cf_pr k ∧ Ho (16 * g + s * cf_wd k) = -1
  · exact e
  · exfalso
    have hall : ∀ s, s < cf_pr k → Ho (16 * g + s * cf_wd k) ≠ -1 := fun s hs z => e ⟨s, hs, z⟩
    have hw : ∀ s, s < cf_pr k → s * cf_wd k < 16 := by
      intro s hs
      rcases cf_4 hk with rfl | rfl | rfl | rfl
      · rw [show cf_pr 0 = 8 from rfl] at hs; rw [show cf_wd 0 = 2 from rfl]; omega
      · rw [show cf_pr 1 = 4 from rfl] at hs; rw [show cf_wd 1 = 4 from rfl]; omega
      · rw [show cf_pr 2 = 2 from rfl] at hs; rw [show cf_wd 2 = 8 from rfl]; omega
      · rw [show cf_pr 3 = 1 from rfl] at hs; rw [show cf_wd 3 = 16 from rfl]; omega
    have a : cf_cn (fun _ => True) (cf_pr k) ≤ cf_cn (fun i => Ho (16 * g + i) ≠ -1) 16 :=
      cf_cn_inj (fun _ => True) (fun s => s * cf_wd k) 16 (cf_pr k) (fun i => Ho (16 * g + i) ≠ -1)
        (fun s hs _ => ⟨hw s hs, hall s hs⟩)
        (fun i j _ _ _ _ w => Nat.eq_of_mul_eq_mul_right (by have := cf_wd16 hk; omega) w)
    have a2 : cf_cn (fun _ => True) (cf_pr k) = cf_pr k := cf_cn_all (fun _ _ => trivial)
    have b : cf_hl Ho g = cf_cn (fun i => Ho (16 * g + i) ≠ -1) 16 := rfl
    omega
/-! AB under the five changes -/
theorem cf_rm {P : Nat} {z p : Nat → Nat} {Ho Pk : Nat → Int32} (J : cf_AB P z p Ho Pk) {h : Nat} (hh : h < 64) (lh : 0 < z h) : cf_AB P (cf_u z h 0) p (upd Ho (p h) (-1)) Pk := by
  obtain ⟨A, B, C⟩ := J
  refine ⟨fun x hx lx => ?_, fun q hq nq => ?_, C⟩
  · by_cases e : x = h
    · rw [e, cf_us] at lx; omega
    · rw [cf_un e] at lx ⊢
      rw [cf_vn (cf_pne A hx hh lx lh e)]
      exact A x hx lx
  · by_cases e : q = p h
    · rw [e, cf_vs] at nq; exact absurd rfl nq
    · rw [cf_vn e] at nq ⊢
      obtain ⟨x, hx, lx, ex, px⟩ := B q hq nq
      have n : x ≠ h := fun w => e (by rw [← px, w])
      exact ⟨x, hx, by rw [cf_un n]; exact lx, ex, px⟩
theorem cf_mv {P : Nat} {z p : Nat → Nat} {Ho Pk : Nat → Int32} (J : cf_AB P z p Ho Pk) {x q : Nat} (hx : x < 64) (lx : 0 < z x) (hq : q < 16 * P) (fq : Ho q = -1) (hk : Pk (q / 16) = nI (cf_kd (z x))) (ha : q % cf_wd (cf_kd (z x)) = 0) : cf_AB P z (cf_u p x q) (upd (upd Ho (p x) (-1)) q (nI x)) Pk := by
  obtain ⟨A, B, C⟩ := J
  have nq : ∀ y, y < 64 → 0 < z y → p y ≠ q := by
    intro y hy ly e
    have a := (A y hy ly).1
    rw [e, fq] at a
    exact cf_nm1 (by omega) a.symm
  refine ⟨fun y hy ly => ?_, fun r hr nr => ?_, C⟩
  · by_cases e : y = x
    · rw [e, cf_us, cf_vs]
      exact ⟨rfl, hk, ha, hq⟩
    · rw [cf_un e, cf_vn (nq y hy ly), cf_vn (cf_pne A hy hx ly lx e)]
      exact A y hy ly
  · by_cases e : r = q
    · rw [e, cf_vs]
      exact ⟨x, hx, lx, rfl, cf_us⟩
    · rw [cf_vn e] at nr ⊢
      by_cases e2 : r = p x
      · rw [e2, cf_vs] at nr; exact absurd rfl nr
      · rw [cf_vn e2] at nr ⊢
        obtain ⟨y, hy, ly, ey, py⟩ := B r hr nr
        have n : y ≠ x := fun w => e2 (by rw [← py, w])
        exact ⟨y, hy, ly, ey, by rw [cf_un n]; exact py⟩
theorem cf_put {P : Nat} {z p : Nat → Nat} {Ho Pk : Nat → Int32} (J : cf_AB P z p Ho Pk) {x q n : Nat} (hx : x < 64) (dx : z x = 0) (hq : q < 16 * P) (fq : Ho q = -1) (hn : 0 < n) (hk : Pk (q / 16) = nI (cf_kd n)) (ha : q % cf_wd (cf_kd n) = 0) : cf_AB P (cf_u z x n) (cf_u p x q) (upd Ho q (nI x)) Pk := by
  obtain ⟨A, B, C⟩ := J
  have nq : ∀ y, y < 64 → 0 < z y → p y ≠ q := by
    intro y hy ly e
    have a := (A y hy ly).1
    rw [e, fq] at a
    exact cf_nm1 (by omega) a.symm
  refine ⟨fun y hy ly => ?_, fun r hr nr => ?_, C⟩
  · by_cases e : y = x
    · rw [e, cf_us, cf_us, cf_vs]
      exact ⟨rfl, hk, ha, hq⟩
    · rw [cf_un e] at ly
      rw [cf_un e, cf_un e, cf_vn (nq y hy ly)]
      exact A y hy ly
  · by_cases e : r = q
    · rw [e, cf_vs]
      exact ⟨x, hx, by rw [cf_us]; exact hn, rfl, cf_us⟩
    · rw [cf_vn e] at nr ⊢
      obtain ⟨y, hy, ly, ey, py⟩ := B r hr nr
      have w : y ≠ x := fun w => by rw [w] at ly; omega
      exact ⟨y, hy, by rw [cf_un w]; exact ly, ey, by rw [cf_un w]; exact py⟩
/-- a page without objects takes any class, or none -/
theorem cf_pk {P : Nat} {z p : Nat → Nat} {Ho Pk : Nat → Int32} (J : cf_AB P z p Ho Pk) {g : Nat} {v : Int32} (h0 : cf_hl Ho g = 0) (hv : v ≠ -1 → ∃ k, k < 4 ∧ v = nI k) : cf_AB P z p Ho (upd Pk g v) := by
  obtain ⟨A, B, C⟩ := J
  refine ⟨fun x hx lx => ?_, B, fun r hr nr => ?_⟩
  · have a := A x hx lx
    have n : p x / 16 ≠ g := by
      intro e
      have := cf_hl_in (Ho := Ho) e (by rw [a.1]; exact cf_nm1 (by omega))
      omega
    rw [cf_vn n]
    exact a
  · by_cases e : r = g
    · rw [e, cf_vs] at nr ⊢
      exact hv nr
    · rw [cf_vn e] at nr ⊢
      exact C r hr nr
/-- a page that isn't in use has no objects -/
theorem cf_h0 {P : Nat} {z p : Nat → Nat} {Ho Pk : Nat → Int32} (J : cf_AB P z p Ho Pk) {g : Nat} (hg : g < 12) (h : Pk g = -1) : cf_hl Ho g = 0 := by
  obtain ⟨A, B, C⟩ := J
  by_cases e : 0 < cf_hl Ho g
  · obtain ⟨q, hq, n⟩ := cf_hl_pos e
    obtain ⟨x, hx, lx, -, px⟩ := B q (by omega) n
    have a := (A x hx lx).2.1
    rw [px, hq, h] at a
    exact absurd a.symm (cf_nm1 (by have := cf_kd4 (z x); omega))
  · omega
theorem cf_ex {P : Nat} {z p : Nat → Nat} {Ho Pk : Nat → Int32} (J : cf_AB P z p Ho Pk) {a b : Nat} (ha : a < 64) (hb : b < 64) (la : 0 < z a) (lb : 0 < z b) :
    cf_AB P (cf_u (cf_u z a (z b)) b (z a)) (cf_u (cf_u p a (p b)) b (p a)) (upd (upd Ho (p b) (nI a)) (p a) (nI b)) Pk := by
  obtain ⟨A, B, C⟩ := J
  refine ⟨fun x hx lx => ?_, fun r hr nr => ?_, C⟩
  · by_cases e : x = b
    · rw [e, cf_us, cf_us, cf_vs]
      exact ⟨rfl, (A a ha la).2⟩
    · rw [cf_un e] at lx
      rw [cf_un e, cf_un e]
      by_cases e2 : x = a
      · rw [e2] at e
        rw [e2, cf_us, cf_us, cf_vn (cf_pne A hb ha lb la (fun w => e w.symm)), cf_vs]
        exact ⟨rfl, (A b hb lb).2⟩
      · rw [cf_un e2] at lx
        rw [cf_un e2, cf_un e2, cf_vn (cf_pne A hx ha lx la e2), cf_vn (cf_pne A hx hb lx lb e)]
        exact A x hx lx
  · by_cases e : r = p a
    · rw [e, cf_vs]
      exact ⟨b, hb, by rw [cf_us]; exact la, rfl, cf_us⟩
    · rw [cf_vn e] at nr ⊢
      by_cases e2 : r = p b
      · have w : a ≠ b := fun w => e (by rw [e2, w])
        rw [e2, cf_vs]
        exact ⟨a, ha, by rw [cf_un w, cf_us]; exact lb, rfl, by rw [cf_un w, cf_us]⟩
      · rw [cf_vn e2] at nr ⊢
        obtain ⟨x, hx, lx, ex, px⟩ := B r hr nr
        have wa : x ≠ a := fun w => e (by rw [← px, w])
        have wb : x ≠ b := fun w => e2 (by rw [← px, w])
        exact ⟨x, hx, by rw [cf_un wb, cf_un wa]; exact lx, ex, by rw [cf_un wb, cf_un wa]; exact px⟩
/-! CD under the changes of fullness -/
theorem cf_cd_c {P : Nat} {H H' : Nat → Nat} {Pk : Nat → Int32} (D : cf_CD P H Pk) (h : ∀ g, g < P → H' g = H g) : cf_CD P H' Pk := by
  obtain ⟨c, d⟩ := D
  refine ⟨fun g hg n => by rw [h g hg]; exact c g hg n, fun g g' k hg hg' hk e e' l l' => ?_⟩
  rw [h g hg] at l
  rw [h g' hg'] at l'
  exact d g g' k hg hg' hk e e' l l'
/-- one goes from page o, which is the only one of its class that isn't full then -/
theorem cf_cd_dec {P : Nat} {H H' : Nat → Nat} {Pk : Nat → Int32} {o k : Nat} (D : cf_CD P H Pk) (hk : k < 4) (ek : Pk o = nI k) (h1 : ∀ g, g < P → g ≠ o → H' g = H g)
    (h2 : ∀ g, g < P → g ≠ o → Pk g = nI k → ¬ H' g < cf_pr k) :
    (0 < H' o → cf_CD P H' Pk) ∧ cf_CD P H' (upd Pk o (-1)) := by
  obtain ⟨c, d⟩ := D
  have dd : ∀ g g' k', g < P → g' < P → k' < 4 → Pk g = nI k' → Pk g' = nI k' → H' g < cf_pr k' → H' g' < cf_pr k' → g = g' := by
    intro g g' k' hg hg' hk' e e' l l'
    by_cases w : k' = k
    · rw [w] at e e' l l'
      by_cases a : g = o
      · by_cases b : g' = o
        · rw [a, b]
        · exact absurd l' (h2 g' hg' b e')
      · exact absurd l (h2 g hg a e)
    · have a : g ≠ o := fun z => by
        rw [z, ek] at e
        exact w (cf_inj (by omega) (by omega) e).symm
      have b : g' ≠ o := fun z => by
        rw [z, ek] at e'
        exact w (cf_inj (by omega) (by omega) e').symm
      rw [h1 g hg a] at l
      rw [h1 g' hg' b] at l'
      exact d g g' k' hg hg' hk' e e' l l'
  refine ⟨fun p0 => ⟨fun g hg n => ?_, dd⟩, fun g hg n => ?_, fun g g' k' hg hg' hk' e e' l l' => ?_⟩
  · by_cases a : g = o
    · rw [a]; exact p0
    · rw [h1 g hg a]; exact c g hg n
  · by_cases a : g = o
    · rw [a, cf_vs] at n; exact absurd rfl n
    · rw [cf_vn a] at n
      rw [h1 g hg a]; exact c g hg n
  · have a : g ≠ o := fun z => by
      rw [z, cf_vs] at e
      exact cf_nm1 (by omega) e.symm
    have b : g' ≠ o := fun z => by
      rw [z, cf_vs] at e'
      exact cf_nm1 (by omega) e'.symm
    rw [cf_vn a] at e
    rw [cf_vn b] at e'
    exact dd g g' k' hg hg' hk' e e' l l'
/-- one comes onto page o: one that isn't full, or a new one where the class has none that isn't full -/
theorem cf_cd_inc {P : Nat} {H H' : Nat → Nat} {Pk : Nat → Int32} {o k : Nat} (D : cf_CD P H Pk) (hk : k < 4) (h0 : 0 < H' o) (h1 : ∀ g, g < P → g ≠ o → H' g = H g)
    (h2 : (Pk o = nI k ∧ H o < cf_pr k ∧ o < P) ∨ (∀ g, g < P → g ≠ o → Pk g = nI k → ¬ H g < cf_pr k)) : cf_CD P H' (upd Pk o (nI k)) := by
  obtain ⟨c, d⟩ := D
  refine ⟨fun g hg n => ?_, fun g g' k' hg hg' hk' e e' l l' => ?_⟩
  · by_cases a : g = o
    · rw [a]; exact h0
    · rw [cf_vn a] at n
      rw [h1 g hg a]; exact c g hg n
  · by_cases w : k' = k
    · rw [w] at e e' l l'
      have key : ∀ r, r < P → r ≠ o → upd Pk o (nI k) r = nI k → H' r < cf_pr k → False := by
        intro r hr n er lr
        rw [cf_vn n] at er
        rw [h1 r hr n] at lr
        rcases h2 with ⟨x, y, ho⟩ | x
        · exact n (d r o k hr ho hk er x lr y)
        · exact x r hr n er lr
      by_cases a : g = o
      · by_cases b : g' = o
        · rw [a, b]
        · exact (key g' hg' b e' l').elim
      · exact (key g hg a e l).elim
    · have a : g ≠ o := fun z => by
        rw [z, cf_vs] at e
        exact w (cf_inj (by omega) (by omega) e).symm
      have b : g' ≠ o := fun z => by
        rw [z, cf_vs] at e'
        exact w (cf_inj (by omega) (by omega) e').symm
      rw [cf_vn a] at e
      rw [cf_vn b] at e'
      rw [h1 g hg a] at l
      rw [h1 g' hg' b] at l'
      exact d g g' k' hg hg' hk' e e' l l'
/-! the pages suffice -/
theorem cf_core (Pk : Nat → Int32) (H : Nat → Nat) (k r : Nat) (hr : 0 < r) (P : Nat)
    (h1 : ∀ g, g < P → Pk g = nI k → 0 < H g)
    (h2 : ∀ g g', g < P → g' < P → Pk g = nI k → Pk g' = nI k → H g < r → H g' < r → g = g') :
    ((∀ g, g < P → Pk g = nI k → r ≤ H g) → cf_cn (fun g => Pk g = nI k) P * r ≤ cf_sm (fun g => if Pk g = nI k then H g else 0) P) ∧
    cf_cn (fun g => Pk g = nI k) P * r + 1 ≤ cf_sm (fun g => if Pk g = nI k then H g else 0) P + r := by
  induction P with
  | zero =>
    refine ⟨fun _ => ?_, ?_⟩
    · show 0 * r ≤ 0
      omega
    · show 0 * r + 1 ≤ 0 + r
      omega
  | succ P ih =>
    obtain ⟨i1, i2⟩ := ih (fun g hg => h1 g (by omega)) (fun g g' hg hg' => h2 g g' (by omega) (by omega))
    rw [cf_cn_s, cf_sm_s]
    by_cases e : Pk P = nI k
    · rw [cf_bt e, if_pos e, Nat.add_mul, Nat.one_mul]
      have f1 := h1 P (by omega) e
      refine ⟨fun hf => ?_, ?_⟩
      · have a := i1 (fun g hg => hf g (by omega))
        have b := hf P (by omega) e
        omega
      · by_cases hp : H P < r
        · have a := i1 (fun g hg eg => by
            by_cases hq : H g < r
            · have w := h2 g P (by omega) (by omega) eg e hq hp
              omega
            · omega)
          omega
        · omega
    · rw [cf_bf e, if_neg e]
      exact ⟨fun hf => i1 (fun g hg => hf g (by omega)), i2⟩
theorem cf_sumP (Pk : Nat → Int32) (P : Nat) (h : ∀ g, g < P → ∃ k, k < 4 ∧ Pk g = nI k) :
    P ≤ cf_cn (fun g => Pk g = nI 0) P + cf_cn (fun g => Pk g = nI 1) P + cf_cn (fun g => Pk g = nI 2) P + cf_cn (fun g => Pk g = nI 3) P := by
  induction P with
  | zero => exact Nat.zero_le _
  | succ P ih =>
    have i := ih (fun g hg => h g (by omega))
    obtain ⟨k, hk, e⟩ := h P (by omega)
    rw [cf_cn_s, cf_cn_s, cf_cn_s, cf_cn_s]
    rcases cf_4 hk with rfl | rfl | rfl | rfl
    · rw [cf_bt (p := Pk P = nI 0) e]; omega
    · rw [cf_bt (p := Pk P = nI 1) e]; omega
    · rw [cf_bt (p := Pk P = nI 2) e]; omega
    · rw [cf_bt (p := Pk P = nI 3) e]; omega
/-- what lies on the pages of a class are objects of that class -/
theorem cf_inS {P : Nat} {z p : Nat → Nat} {Ho Pk : Nat → Int32} (J : cf_AB P z p Ho Pk) (hP : P ≤ 12) {c : Nat} (hc : c < 4) :
    cf_sm (fun g => if Pk g = nI c then cf_hl Ho g else 0) P ≤ cf_nk z c := by
  obtain ⟨A, B, C⟩ := J
  have e : cf_sm (fun g => if Pk g = nI c then cf_hl Ho g else 0) P = cf_cn (fun q => Ho q ≠ -1 ∧ Pk (q / 16) = nI c) (16 * P) := by
    rw [cf_blk]
    refine cf_sm_congr (fun g hg => ?_)
    show (if Pk g = nI c then cf_hl Ho g else 0) = cf_cn (fun i => Ho (16 * g + i) ≠ -1 ∧ Pk ((16 * g + i) / 16) = nI c) 16
    by_cases w : Pk g = nI c
    · rw [if_pos w]
      refine cf_cn_congr (fun i hi => ?_)
      show (Ho (16 * g + i) ≠ -1) ↔ (Ho (16 * g + i) ≠ -1 ∧ Pk ((16 * g + i) / 16) = nI c)
      rw [show (16 * g + i) / 16 = g from by omega]
      exact ⟨fun a => ⟨a, w⟩, fun a => a.1⟩
    · rw [if_neg w]
      refine (cf_cn_none (fun i hi => ?_)).symm
      show ¬ (Ho (16 * g + i) ≠ -1 ∧ Pk ((16 * g + i) / 16) = nI c)
      rw [show (16 * g + i) / 16 = g from by omega]
      exact fun a => w a.2
  rw [e]
  have key : ∀ q, q < 16 * P → (Ho q ≠ -1 ∧ Pk (q / 16) = nI c) → ∃ h, h < 64 ∧ 0 < z h ∧ (Ho q).toNatClampNeg = h ∧ p h = q ∧ cf_kd (z h) = c := by
    intro q hq hn
    obtain ⟨h, hh, lh, eh, ph⟩ := B q (by omega) hn.1
    have a := (A h hh lh).2.1
    rw [ph, hn.2] at a
    have k4 := cf_kd4 (z h)
    refine ⟨h, hh, lh, ?_, ph, (cf_inj (by omega) (by omega) a).symm⟩
    rw [eh, nI_clamp (by omega)]
  refine cf_cn_inj (fun q => Ho q ≠ -1 ∧ Pk (q / 16) = nI c) (fun q => (Ho q).toNatClampNeg) 64 (16 * P) (fun h => 0 < z h ∧ cf_kd (z h) = c) (fun q hq hn => ?_) (fun q r hq hr hn hm w => ?_)
  · obtain ⟨h, hh, lh, eh, ph, kh⟩ := key q hq hn
    show (Ho q).toNatClampNeg < 64 ∧ 0 < z (Ho q).toNatClampNeg ∧ cf_kd (z (Ho q).toNatClampNeg) = c
    rw [eh]
    exact ⟨hh, lh, kh⟩
  · obtain ⟨h, hh, lh, eh, ph, kh⟩ := key q hq hn
    obtain ⟨h', hh', lh', eh', ph', kh'⟩ := key r hr hm
    have w' : (Ho q).toNatClampNeg = (Ho r).toNatClampNeg := w
    rw [← ph, ← ph', ← eh, ← eh', w']
/-- where one more object of class k needs no more than P pages, there is a page for it -/
theorem cf_find {P : Nat} {z p : Nat → Nat} {Ho Pk : Nat → Int32} (J : cf_AB P z p Ho Pk) (D : cf_CD P (cf_hl Ho) Pk) (hP : P ≤ 12) {k : Nat} (hk : k < 4)
    (hn : cf_nd (fun c => cf_nk z c + if c = k then 1 else 0) ≤ P) (h1 : ∀ g, g < P → Pk g = nI k → ¬ cf_hl Ho g < cf_pr k) (h2 : ∀ g, g < P → Pk g ≠ -1) : False := by
  have lo : ∀ c, c < 4 → cf_cn (fun g => Pk g = nI c) P ≤ cf_pg c (cf_nk z c) := by
    intro c hc
    have a := (cf_core Pk (cf_hl Ho) c (cf_pr c) (by have := cf_pr8 hc; omega) P
      (fun g hg e => D.1 g hg (h2 g hg)) (fun g g' hg hg' e e' l l' => D.2 g g' c hg hg' hc e e' l l')).2
    have b := cf_inS J hP hc
    exact cf_pg_lo hc (by omega)
  have hi : cf_cn (fun g => Pk g = nI k) P + 1 ≤ cf_pg k (cf_nk z k + 1) := by
    have a := (cf_core Pk (cf_hl Ho) k (cf_pr k) (by have := cf_pr8 hk; omega) P
      (fun g hg e => D.1 g hg (h2 g hg)) (fun g g' hg hg' e e' l l' => D.2 g g' k hg hg' hk e e' l l')).1
      (fun g hg e => by have := h1 g hg e; omega)
    have b := cf_inS J hP hk
    exact cf_pg_hi hk (by omega)
  have s := cf_sumP Pk P (fun g hg => J.2.2 g hg (h2 g hg))
  have l0 := lo 0 (by decide)
  have l1 := lo 1 (by decide)
  have l2 := lo 2 (by decide)
  have l3 := lo 3 (by decide)
  unfold cf_nd at hn
  rcases cf_4 hk with rfl | rfl | rfl | rfl
  · simp only [if_true, if_false, Nat.add_zero, show (1 : Nat) = 0 ↔ False from by decide, show (2 : Nat) = 0 ↔ False from by decide, show (3 : Nat) = 0 ↔ False from by decide] at hn
    omega
  · simp only [if_true, if_false, Nat.add_zero, show (0 : Nat) = 1 ↔ False from by decide, show (2 : Nat) = 1 ↔ False from by decide, show (3 : Nat) = 1 ↔ False from by decide] at hn
    omega
  · simp only [if_true, if_false, Nat.add_zero, show (0 : Nat) = 2 ↔ False from by decide, show (1 : Nat) = 2 ↔ False from by decide, show (3 : Nat) = 2 ↔ False from by decide] at hn
    omega
  · simp only [if_true, if_false, Nat.add_zero, show (0 : Nat) = 3 ↔ False from by decide, show (1 : Nat) = 3 ↔ False from by decide, show (2 : Nat) = 3 ↔ False from by decide] at hn
    omega
