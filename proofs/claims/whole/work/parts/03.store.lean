/-! words written one behind another -/
def cf_wr (w : Nat → Int32) (b : Nat) (v : Nat → Int32) (n : Nat) : Nat → Int32 := fun q => if b ≤ q ∧ q < b + n then v (q - b) else w q
theorem cf_wr_0 (w : Nat → Int32) (b : Nat) (v : Nat → Int32) : cf_wr w b v 0 = w := by
  funext q
  exact if_neg (by omega)
theorem cf_wr_in {w : Nat → Int32} {b : Nat} {v : Nat → Int32} {n j : Nat} (h : j < n) : cf_wr w b v n (b + j) = v j := by
  unfold cf_wr
  rw [if_pos (by omega), show b + j - b = j from by omega]
theorem cf_wr_out {w : Nat → Int32} {b : Nat} {v : Nat → Int32} {n q : Nat} (h : ∀ j, j < n → q ≠ b + j) : cf_wr w b v n q = w q := by
  unfold cf_wr
  refine if_neg (fun z => ?_)
  exact h (q - b) (by omega) (by omega)
theorem cf_wr_s (w : Nat → Int32) (b : Nat) (v : Nat → Int32) (n : Nat) : upd (cf_wr w b v n) (b + n) (v n) = cf_wr w b v (n + 1) := by
  funext q
  by_cases e : q = b + n
  · rw [e, cf_vs, cf_wr_in (by omega)]
  · rw [cf_vn e]
    unfold cf_wr
    by_cases i : b ≤ q ∧ q < b + n
    · rw [if_pos i, if_pos (by omega)]
    · rw [if_neg i, if_neg (by omega)]
theorem cf_wr_c {w : Nat → Int32} {b : Nat} {v v' : Nat → Int32} {n : Nat} (h : ∀ j, j < n → v j = v' j) : cf_wr w b v n = cf_wr w b v' n := by
  funext q
  unfold cf_wr
  by_cases i : b ≤ q ∧ q < b + n
  · rw [if_pos i, if_pos i, h _ (by omega)]
  · rw [if_neg i, if_neg i]
/-! the component's state: P pages, sizes z, places p, contents c -/
def cf_X (P : Nat) (z p : Nat → Nat) (c : Nat → Nat → Int32) (w Ho Pk : Nat → Int32) : Prop :=
  2 ≤ P ∧ P ≤ 12 ∧ (∀ h, z h ≤ 16) ∧ (∀ h, p h < 192) ∧ cf_AB P z p Ho Pk ∧ cf_CD P (cf_hl Ho) Pk ∧
  (∀ h, h < 64 → ∀ j, j < z h → w (p h + j) = c h j)
theorem cf_Xc {P : Nat} {z p : Nat → Nat} {c c' : Nat → Nat → Int32} {w w' Ho Pk : Nat → Int32} (X : cf_X P z p c w Ho Pk)
    (h : ∀ h, h < 64 → ∀ j, j < z h → w' (p h + j) = c' h j) : cf_X P z p c' w' Ho Pk := by
  obtain ⟨h1, h2, h3, h4, h5, h6, -⟩ := X
  exact ⟨h1, h2, h3, h4, h5, h6, h⟩
/-- an object of the component gets other words -/
theorem cf_Xw {P : Nat} {z p : Nat → Nat} {c c' : Nat → Nat → Int32} {w Ho Pk : Nat → Int32} (X : cf_X P z p c w Ho Pk) {x a n : Nat} {v : Nat → Int32} (hx : x < 64) (hn : a + n ≤ z x)
    (h1 : ∀ j, j < n → c' x (a + j) = v j) (h2 : ∀ j, j < z x → (j < a ∨ a + n ≤ j) → c' x j = c x j) (h3 : ∀ y, y < 64 → y ≠ x → ∀ j, j < z y → c' y j = c y j) :
    cf_X P z p c' (cf_wr w (p x + a) v n) Ho Pk := by
  have X0 := X
  obtain ⟨-, -, hz, -, J, -, hw⟩ := X0
  refine cf_Xc X (fun y hy j hj => ?_)
  by_cases e : y = x
  · rw [e] at hj ⊢
    by_cases i : a ≤ j ∧ j < a + n
    · obtain ⟨m, rfl⟩ : ∃ m, j = a + m := ⟨j - a, by omega⟩
      rw [← Nat.add_assoc, cf_wr_in (by omega), h1 m (by omega)]
    · rw [cf_wr_out (fun m hm => by omega), hw x hx j hj, h2 j hj (by omega)]
  · rw [cf_wr_out (fun m hm => ?_), hw y hy j hj, h3 y hy e j hj]
    have d := cf_dis J.1 hz hy hx e (i := j) (j := a + m) hj (by omega)
    omega
/-- an object goes, no other page of its class has holes -/
theorem cf_vac1 {P : Nat} {z p : Nat → Nat} {c : Nat → Nat → Int32} {w Ho Pk : Nat → Int32} (X : cf_X P z p c w Ho Pk) {h : Nat} (hh : h < 64) (lh : 0 < z h)
    (hno : ∀ g, g < P → g ≠ p h / 16 → Pk g = nI (cf_kd (z h)) → ¬ cf_hl (upd Ho (p h) (-1)) g < cf_pr (cf_kd (z h))) :
    (cf_hl (upd Ho (p h) (-1)) (p h / 16) = 0 → cf_X P (cf_u z h 0) p c w (upd Ho (p h) (-1)) (upd Pk (p h / 16) (-1))) ∧
    (0 < cf_hl (upd Ho (p h) (-1)) (p h / 16) → cf_X P (cf_u z h 0) p c w (upd Ho (p h) (-1)) Pk) := by
  obtain ⟨h1, h2, hz, hp, J, D, hw⟩ := X
  have J1 := cf_rm J hh lh
  have hz1 : ∀ x, cf_u z h 0 x ≤ 16 := by
    intro x
    by_cases e : x = h
    · rw [e, cf_us]; omega
    · rw [cf_un e]; exact hz x
  have hw1 : ∀ x, x < 64 → ∀ j, j < cf_u z h 0 x → w (p x + j) = c x j := by
    intro x hx j hj
    by_cases e : x = h
    · rw [e, cf_us] at hj; omega
    · rw [cf_un e] at hj; exact hw x hx j hj
  have d := cf_cd_dec (H' := cf_hl (upd Ho (p h) (-1))) (o := p h / 16) D (cf_kd4 (z h)) (J.1 h hh lh).2.1 (fun g _ n => cf_hl_o (fun e => n e.symm)) hno
  refine ⟨fun e0 => ⟨h1, h2, hz1, hp, cf_pk J1 e0 (fun n => absurd rfl n), d.2, hw1⟩, fun e0 => ⟨h1, h2, hz1, hp, J1, d.1 e0, hw1⟩⟩
/-- an object goes, and x, which lies on page o of its class, moves into the gap -/
theorem cf_vac2 {P : Nat} {z p : Nat → Nat} {c : Nat → Nat → Int32} {w Ho Pk : Nat → Int32} (X : cf_X P z p c w Ho Pk) {h o x : Nat} (hh : h < 64) (lh : 0 < z h)
    (ho : o < P) (no : o ≠ p h / 16) (ko : Pk o = nI (cf_kd (z h))) (lo : cf_hl (upd Ho (p h) (-1)) o < cf_pr (cf_kd (z h)))
    (hx : x < 64) (lx : 0 < cf_u z h 0 x) (px : p x / 16 = o) :
    (cf_hl (upd (upd (upd Ho (p h) (-1)) (p x) (-1)) (p h) (nI x)) o = 0 → cf_X P (cf_u z h 0) (cf_u p x (p h)) c (cf_wr w (p h) (fun j => w (p x + j)) (cf_u z h 0 x)) (upd (upd (upd Ho (p h) (-1)) (p x) (-1)) (p h) (nI x)) (upd Pk o (-1))) ∧
    (0 < cf_hl (upd (upd (upd Ho (p h) (-1)) (p x) (-1)) (p h) (nI x)) o → cf_X P (cf_u z h 0) (cf_u p x (p h)) c (cf_wr w (p h) (fun j => w (p x + j)) (cf_u z h 0 x)) (upd (upd (upd Ho (p h) (-1)) (p x) (-1)) (p h) (nI x)) Pk) := by
  obtain ⟨h1, h2, hz, hp, J, D, hw⟩ := X
  have J1 := cf_rm J hh lh
  have hxh : x ≠ h := by
    intro e
    rw [e, cf_us] at lx
    omega
  have hz1 : ∀ y, cf_u z h 0 y ≤ 16 := by
    intro y
    by_cases e : y = h
    · rw [e, cf_us]; omega
    · rw [cf_un e]; exact hz y
  have hp1 : ∀ y, cf_u p x (p h) y < 192 := by
    intro y
    by_cases e : y = x
    · rw [e, cf_us]; exact hp h
    · rw [cf_un e]; exact hp y
  obtain ⟨a1, a2, a3, a4⟩ := J.1 h hh lh
  have k4 := cf_kd4 (z h)
  have lx0 : 0 < z x := by rw [cf_un hxh] at lx; exact lx
  have kx : cf_kd (cf_u z h 0 x) = cf_kd (z h) := by
    have b := (J.1 x hx lx0).2.1
    rw [px, ko] at b
    rw [cf_un hxh]
    exact (cf_inj (by omega) (by have := cf_kd4 (z x); omega) b).symm
  have J2 := cf_mv J1 hx lx a4 cf_vs (by rw [kx]; exact a2) (by rw [kx]; exact a3)
  have hh1 : upd Ho (p h) (-1) (p x) ≠ -1 := by
    rw [(J1.1 x hx lx).1]
    exact cf_nm1 (by omega)
  have fh : cf_hl (upd (upd (upd Ho (p h) (-1)) (p x) (-1)) (p h) (nI x)) (p h / 16) = cf_hl Ho (p h / 16) := by
    have e1 := cf_hl_at (Ho := Ho) (q := p h) (g := p h / 16) (x := -1) rfl
    have e2 : cf_hl (upd (upd Ho (p h) (-1)) (p x) (-1)) (p h / 16) = cf_hl (upd Ho (p h) (-1)) (p h / 16) := cf_hl_o (by rw [px]; exact no)
    have e3 := cf_hl_at (Ho := upd (upd Ho (p h) (-1)) (p x) (-1)) (q := p h) (g := p h / 16) (x := nI x) rfl
    have n1 : p h ≠ p x := cf_pne J.1 hh hx lh lx0 (fun e => hxh e.symm)
    rw [cf_bt (by rw [a1]; exact cf_nm1 (by omega)), cf_bf (fun n => n rfl)] at e1
    rw [cf_vn n1, cf_vs, cf_bf (fun n => n rfl), cf_bt (cf_nm1 (by omega))] at e3
    omega
  have fo : ∀ g, g ≠ p h / 16 → g ≠ o → cf_hl (upd (upd (upd Ho (p h) (-1)) (p x) (-1)) (p h) (nI x)) g = cf_hl Ho g := by
    intro g n n'
    rw [cf_hl_o (fun e => n e.symm), cf_hl_o (fun e => n' (by rw [← e, px])), cf_hl_o (fun e => n e.symm)]
  have fg : ∀ g, g < P → g ≠ o → cf_hl (upd (upd (upd Ho (p h) (-1)) (p x) (-1)) (p h) (nI x)) g = cf_hl Ho g := by
    intro g _ n
    by_cases e : g = p h / 16
    · rw [e]; exact fh
    · exact fo g e n
  have lo0 : cf_hl Ho o < cf_pr (cf_kd (z h)) := by
    rw [cf_hl_o (fun e => no e.symm)] at lo
    exact lo
  have d := cf_cd_dec (H' := cf_hl (upd (upd (upd Ho (p h) (-1)) (p x) (-1)) (p h) (nI x))) (o := o) D k4 ko fg
    (fun g hg n e l => n (D.2 g o _ hg ho k4 e ko (by rw [fg g hg n] at l; exact l) lo0))
  have hw1 : ∀ y, y < 64 → ∀ j, j < cf_u z h 0 y → cf_wr w (p h) (fun j => w (p x + j)) (cf_u z h 0 x) (cf_u p x (p h) y + j) = c y j := by
    intro y hy j hj
    have yh : y ≠ h := by
      intro e
      rw [e, cf_us] at hj
      omega
    by_cases e : y = x
    · rw [e] at hj ⊢
      rw [cf_us, cf_wr_in hj]
      rw [cf_un hxh] at hj
      exact hw x hx j hj
    · rw [cf_un e, cf_wr_out (fun m hm => ?_)]
      · rw [cf_un yh] at hj
        exact hw y hy j hj
      · have f := cf_fit (cf_u z h 0 x) (by have := hz1 x; omega)
        rw [kx] at f
        have nq : p h ≠ p y := cf_pne J.1 hh hy lh (by rw [cf_un yh] at hj; omega) (fun e => yh e.symm)
        have dd := cf_dq J1.1 hz1 hy (by omega) k4 a3 a2 nq (i := m) (j := j) (by omega) hj
        omega
  refine ⟨fun e0 => ⟨h1, h2, hz1, hp1, cf_pk J2 e0 (fun n => absurd rfl n), d.2, hw1⟩, fun e0 => ⟨h1, h2, hz1, hp1, J2, d.1 e0, hw1⟩⟩
/-- a new object gets the slot s of page g -/
theorem cf_set {P : Nat} {z p : Nat → Nat} {c : Nat → Nat → Int32} {w Ho Pk : Nat → Int32} (X : cf_X P z p c w Ho Pk) {h n g s : Nat} (hh : h < 64) (dh : z h = 0) (n1 : 0 < n) (n16 : n ≤ 16)
    (hg : g < P) (hs : s < cf_pr (cf_kd n)) (fs : Ho (16 * g + s * cf_wd (cf_kd n)) = -1)
    (hc : (Pk g = nI (cf_kd n) ∧ cf_hl Ho g < cf_pr (cf_kd n)) ∨ (Pk g = -1 ∧ ∀ g', g' < P → Pk g' = nI (cf_kd n) → ¬ cf_hl Ho g' < cf_pr (cf_kd n))) :
    cf_X P (cf_u z h n) (cf_u p h (16 * g + s * cf_wd (cf_kd n))) (fun y j => if y = h then w (16 * g + s * cf_wd (cf_kd n) + j) else c y j) w (upd Ho (16 * g + s * cf_wd (cf_kd n)) (nI h)) (upd Pk g (nI (cf_kd n))) := by
  obtain ⟨h1, h2, hz, hp, J, D, hw⟩ := X
  have k4 := cf_kd4 n
  have hq : (16 * g + s * cf_wd (cf_kd n)) / 16 = g ∧ (16 * g + s * cf_wd (cf_kd n)) % cf_wd (cf_kd n) = 0 := by
    generalize cf_kd n = k at hs k4
    rcases cf_4 k4 with rfl | rfl | rfl | rfl
    · rw [show cf_pr 0 = 8 from rfl] at hs; rw [show cf_wd 0 = 2 from rfl]; omega
    · rw [show cf_pr 1 = 4 from rfl] at hs; rw [show cf_wd 1 = 4 from rfl]; omega
    · rw [show cf_pr 2 = 2 from rfl] at hs; rw [show cf_wd 2 = 8 from rfl]; omega
    · rw [show cf_pr 3 = 1 from rfl] at hs; rw [show cf_wd 3 = 16 from rfl]; omega
  generalize hQ : 16 * g + s * cf_wd (cf_kd n) = q at fs hq
  obtain ⟨q1, q2⟩ := hq
  have J1 : cf_AB P z p Ho (upd Pk g (nI (cf_kd n))) := by
    rcases hc with ⟨a, -⟩ | ⟨a, -⟩
    · rw [cf_same a]; exact J
    · exact cf_pk J (cf_h0 J (by omega) a) (fun _ => ⟨_, k4, rfl⟩)
  have J2 := cf_put J1 hh dh (q := q) (n := n) (by omega) fs n1 (by rw [q1]; exact cf_vs) q2
  have e1 := cf_hl_at (Ho := Ho) (q := q) (g := g) (x := nI h) q1
  rw [cf_bf (fun n => n fs), cf_bt (cf_nm1 (by omega))] at e1
  have D1 : cf_CD P (cf_hl (upd Ho q (nI h))) (upd Pk g (nI (cf_kd n))) := by
    refine cf_cd_inc D k4 (by omega) (fun r _ nr => cf_hl_o (by rw [q1]; exact fun e => nr e.symm)) ?_
    rcases hc with ⟨a, b⟩ | ⟨a, b⟩
    · exact Or.inl ⟨a, b, hg⟩
    · exact Or.inr (fun r hr _ er => b r hr er)
  refine ⟨h1, h2, fun x => ?_, fun x => ?_, J2, D1, fun x hx j hj => ?_⟩
  · by_cases e : x = h
    · rw [e, cf_us]; exact n16
    · rw [cf_un e]; exact hz x
  · by_cases e : x = h
    · rw [e, cf_us]; omega
    · rw [cf_un e]; exact hp x
  · by_cases e : x = h
    · rw [e, cf_us]
      show w (q + j) = if h = h then w (q + j) else c h j
      rw [if_pos rfl]
    · rw [cf_un e] at hj ⊢
      show w (p x + j) = if x = h then w (q + j) else c x j
      rw [if_neg e]
      exact hw x hx j hj
/-- two objects change places -/
theorem cf_exX {P : Nat} {z p : Nat → Nat} {c : Nat → Nat → Int32} {w Ho Pk : Nat → Int32} (X : cf_X P z p c w Ho Pk) {a b : Nat} (ha : a < 64) (hb : b < 64) (la : 0 < z a) (lb : 0 < z b) :
    cf_X P (cf_u (cf_u z a (z b)) b (z a)) (cf_u (cf_u p a (p b)) b (p a)) (fun y => if y = b then c a else if y = a then c b else c y) w (upd (upd Ho (p b) (nI a)) (p a) (nI b)) Pk := by
  obtain ⟨h1, h2, hz, hp, J, D, hw⟩ := X
  have J1 := cf_ex J ha hb la lb
  have ea := (J.1 a ha la).1
  have eb := (J.1 b hb lb).1
  have D1 : cf_CD P (cf_hl (upd (upd Ho (p b) (nI a)) (p a) (nI b))) Pk := by
    refine cf_cd_c D (fun g _ => cf_hl_c (fun q _ => ?_))
    by_cases e : q = p a
    · rw [e, cf_vs, ea]
      exact ⟨fun _ => cf_nm1 (by omega), fun _ => cf_nm1 (by omega)⟩
    · rw [cf_vn e]
      by_cases e2 : q = p b
      · rw [e2, cf_vs, eb]
        exact ⟨fun _ => cf_nm1 (by omega), fun _ => cf_nm1 (by omega)⟩
      · rw [cf_vn e2]
  refine ⟨h1, h2, fun x => ?_, fun x => ?_, J1, D1, fun x hx j hj => ?_⟩
  · by_cases e : x = b
    · rw [e, cf_us]; exact hz a
    · rw [cf_un e]
      by_cases e2 : x = a
      · rw [e2, cf_us]; exact hz b
      · rw [cf_un e2]; exact hz x
  · by_cases e : x = b
    · rw [e, cf_us]; exact hp a
    · rw [cf_un e]
      by_cases e2 : x = a
      · rw [e2, cf_us]; exact hp b
      · rw [cf_un e2]; exact hp x
  · show w (cf_u (cf_u p a (p b)) b (p a) x + j) = (if x = b then c a else if x = a then c b else c x) j
    by_cases e : x = b
    · rw [e, cf_us] at hj
      rw [e, cf_us, if_pos rfl]
      exact hw a ha j hj
    · rw [cf_un e] at hj
      rw [cf_un e, if_neg e]
      by_cases e2 : x = a
      · rw [e2, cf_us] at hj
        rw [e2, cf_us, if_pos rfl]
        exact hw b hb j hj
      · rw [cf_un e2] at hj
        rw [cf_un e2, if_neg e2]
        exact hw x hx j hj
