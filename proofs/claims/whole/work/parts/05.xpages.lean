section
variable {f0 : Int32} {w Ho : Nat → Int32} {z p : Nat → Nat} {Pk sp : Nat → Int32}
theorem cf_m16 (g : Nat) : nI g * 16 = nI (16 * g) := by
  show nI g * nI 16 = nI (16 * g)
  rw [pk_mul, Nat.mul_comm]
theorem cf_p16t {a i : Nat} (h : a + 16 ≤ i) (hi : i < 2 ^ 31) : nI a + 16 ≤ nI i := by
  show nI a + nI 16 ≤ nI i
  rw [nI_add]
  exact nI_le h hi
theorem cf_p16f {a i : Nat} (h : i < a + 16) (ha : a + 16 < 2 ^ 31) : ¬ nI a + 16 ≤ nI i := by
  show ¬ nI a + nI 16 ≤ nI i
  rw [nI_add]
  exact nI_ge h ha
theorem cf_xheld {post : Int32 → Prop} {g : Nat} (hg : g < 12) (hp : post (nI (cf_hl Ho g))) : wpX_heldOn post (cf_S f0 w Ho z p Pk sp) (nI g) := by
  have key : ∀ d i : Nat, i + d = 16 → wX_heldOn_10 post (nI (16 * g)) f0 w Ho (fun j => nI (z j)) (fun j => nI (p j)) Pk sp (d + 1) (nI (cf_cn (fun i => Ho (16 * g + i) ≠ -1) i)) (nI (16 * g + i)) := by
    intro d
    induction d with
    | zero =>
      intro i hi
      have e : i = 16 := by omega
      subst e
      exact br_t (cf_p16t (by omega) (by omega)) hp
    | succ d ih =>
      intro i hi
      have t := ih (i + 1) (by omega)
      rw [cf_cn_s, ← Nat.add_assoc] at t
      refine br_f (cf_p16f (by omega) (by omega)) ⟨vp_in_nI (by omega) (by decide), ?_⟩
      rw [nI_clamp (by omega)]
      by_cases e : Ho (16 * g + i) = -1
      · rw [cf_bf (fun n => n e)] at t
        exact br_t e (nm_r (nI_1 _) t)
      · rw [cf_bt e] at t
        exact br_f e (nm_r (nI_1 _) (nm_r (nI_1 _) t))
  exact nm_r (cf_m16 g) ⟨17, key 16 0 rfl⟩
theorem cf_xpart_t {post : Int32 → Prop} {g k : Nat} (hg : g < 12) (hk : k < 4) (e : Pk g = nI k ∧ cf_hl Ho g < cf_pr k) (hp : post 1) : wpX_isPart post (cf_S f0 w Ho z p Pk sp) (nI g) (nI k) := by
  have a := cf_pr8 hk
  refine ⟨vp_in_nI hg (by decide), br_t ?_ (cf_xheld hg (cf_xper hk (br_f ?_ hp)))⟩
  · rw [nI_clamp (by omega)]; exact e.1
  · exact nI_ge e.2 (by omega)
theorem cf_xpart_f {post : Int32 → Prop} {g k : Nat} (hg : g < 12) (hk : k < 4) (e : ¬ (Pk g = nI k ∧ cf_hl Ho g < cf_pr k)) (hp : post 0) : wpX_isPart post (cf_S f0 w Ho z p Pk sp) (nI g) (nI k) := by
  have a := cf_pr8 hk
  have b : cf_hl Ho g ≤ 16 := cf_cn_le _ _
  refine ⟨vp_in_nI hg (by decide), br_c (fun c => cf_xheld hg (cf_xper hk (br_t ?_ hp))) (fun _ => hp)⟩
  rw [nI_clamp (by omega)] at c
  exact nI_le (by
    by_cases l : cf_hl Ho g < cf_pr k
    · exact absurd ⟨c, l⟩ e
    · omega) (by omega)
theorem cf_xpp_t {post : Int32 → Prop} {P g k : Nat} {x : Int32} (hP : P ≤ 12) (hk : k < 4) (hg : g < P) (nx : nI g ≠ x) (e : Pk g = nI k ∧ cf_hl Ho g < cf_pr k)
    (hl : ∀ j, j < g → ¬ (nI j ≠ x ∧ Pk j = nI k ∧ cf_hl Ho j < cf_pr k)) (hp : post (nI g)) : wpX_partPage post (cf_S (nI P) w Ho z p Pk sp) (nI k) x := by
  have key : ∀ d i : Nat, i + d = g → wX_partPage_2 post (nI k) x (nI P) w Ho (fun j => nI (z j)) (fun j => nI (p j)) Pk sp (d + 1) (nI i) := by
    intro d
    induction d with
    | zero =>
      intro i hi
      have e0 : i = g := by omega
      rw [e0]
      exact br_f (nI_ge hg (by omega)) (br_f nx (cf_xpart_t (by omega) hk e (br_f (by decide) hp)))
    | succ d ih =>
      intro i hi
      have t := ih (i + 1) (by omega)
      refine br_f (nI_ge (by omega) (by omega)) (br_c (fun _ => nm_r (nI_1 i) t) (fun ne => ?_))
      exact cf_xpart_f (by omega) hk (fun q => hl i (by omega) ⟨ne, q⟩) (br_t rfl (nm_r (nI_1 i) t))
  exact ⟨g + 1, key g 0 (by omega)⟩
theorem cf_xpp_f {post : Int32 → Prop} {P k : Nat} {x : Int32} (hP : P ≤ 12) (hk : k < 4)
    (hl : ∀ j, j < P → ¬ (nI j ≠ x ∧ Pk j = nI k ∧ cf_hl Ho j < cf_pr k)) (hp : post (-1)) : wpX_partPage post (cf_S (nI P) w Ho z p Pk sp) (nI k) x := by
  have key : ∀ d i : Nat, i + d = P → wX_partPage_2 post (nI k) x (nI P) w Ho (fun j => nI (z j)) (fun j => nI (p j)) Pk sp (d + 1) (nI i) := by
    intro d
    induction d with
    | zero =>
      intro i hi
      exact br_t (nI_le (by omega) (by omega)) hp
    | succ d ih =>
      intro i hi
      have t := ih (i + 1) (by omega)
      refine br_f (nI_ge (by omega) (by omega)) (br_c (fun _ => nm_r (nI_1 i) t) (fun ne => ?_))
      exact cf_xpart_f (by omega) hk (fun q => hl i (by omega) ⟨ne, q⟩) (br_t rfl (nm_r (nI_1 i) t))
  exact ⟨P + 1, key P 0 (by omega)⟩
theorem cf_xun {post : Int32 → Prop} {P g : Nat} (hP : P ≤ 12) (hg : g < P) (e : Pk g = -1) (hl : ∀ j, j < g → Pk j ≠ -1) (hp : post (nI g)) : wpX_unusedPage post (cf_S (nI P) w Ho z p Pk sp) := by
  have key : ∀ d i : Nat, i + d = g → wX_unusedPage_2 post (nI P) w Ho (fun j => nI (z j)) (fun j => nI (p j)) Pk sp (d + 1) (nI i) := by
    intro d
    induction d with
    | zero =>
      intro i hi
      have e0 : i = g := by omega
      rw [e0]
      refine br_f (nI_ge hg (by omega)) ⟨vp_in_nI (by omega) (by decide), br_t ?_ hp⟩
      rw [nI_clamp (by omega)]
      exact e
    | succ d ih =>
      intro i hi
      have t := ih (i + 1) (by omega)
      refine br_f (nI_ge (by omega) (by omega)) ⟨vp_in_nI (by omega) (by decide), br_f ?_ (nm_r (nI_1 i) t)⟩
      rw [nI_clamp (by omega)]
      exact hl i (by omega)
  exact ⟨g + 1, key g 0 (by omega)⟩
theorem cf_xhole {post : Int32 → Prop} {g k s : Nat} (hg : g < 12) (hk : k < 4) (hs : s < cf_pr k) (fs : Ho (16 * g + s * cf_wd k) = -1) (hl : ∀ j, j < s → Ho (16 * g + j * cf_wd k) ≠ -1)
    (hp : post (nI (16 * g + s * cf_wd k))) : wpX_holeOn post (cf_S f0 w Ho z p Pk sp) (nI g) (nI k) := by
  have a := cf_pr8 hk
  have hw : ∀ j, j < cf_pr k → 16 * g + j * cf_wd k < 192 := by
    intro j hj
    rcases cf_4 hk with rfl | rfl | rfl | rfl
    · rw [show cf_pr 0 = 8 from rfl] at hj; rw [show cf_wd 0 = 2 from rfl]; omega
    · rw [show cf_pr 1 = 4 from rfl] at hj; rw [show cf_wd 1 = 4 from rfl]; omega
    · rw [show cf_pr 2 = 2 from rfl] at hj; rw [show cf_wd 2 = 8 from rfl]; omega
    · rw [show cf_pr 3 = 1 from rfl] at hj; rw [show cf_wd 3 = 16 from rfl]; omega
  have ei : ∀ i, nI (16 * g) + nI i * nI (cf_wd k) = nI (16 * g + i * cf_wd k) := by
    intro i
    rw [pk_mul, nI_add]
  have key : ∀ d i : Nat, i + d = s → ∀ x6 : Int32, wX_holeOn_23 post (nI (16 * g)) (nI (cf_wd k)) (nI (cf_pr k)) f0 w Ho (fun j => nI (z j)) (fun j => nI (p j)) Pk sp (d + 1) x6 (nI i) := by
    intro d
    induction d with
    | zero =>
      intro i hi x6
      have e0 : i = s := by omega
      rw [e0]
      have b := hw s hs
      refine br_f (nI_ge hs (by omega)) (nm_r (ei s) ⟨vp_in_nI b (by decide), br_t ?_ hp⟩)
      rw [nI_clamp (by omega)]
      exact fs
    | succ d ih =>
      intro i hi x6
      have t := ih (i + 1) (by omega)
      have b := hw i (by omega)
      refine br_f (nI_ge (by omega) (by omega)) (nm_r (ei i) ⟨vp_in_nI b (by decide), br_f ?_ (nm_r (nI_1 i) (t _))⟩)
      rw [nI_clamp (by omega)]
      exact hl i (by omega)
  exact nm_r (cf_m16 g) (cf_xslot hk (cf_xper hk ⟨s + 1, key s 0 (by omega) _⟩))
theorem cf_xput {post : SX → Prop} {h q : Nat} (hh : h < 64) (hq : q < 192) (hp : post (cf_S f0 w (upd Ho q (nI h)) z (cf_u p h q) Pk sp)) : wpX_putAt post (cf_S f0 w Ho z p Pk sp) (nI h) (nI q) := by
  refine ⟨vp_in_nI hh (by decide), nm_r (e' := fun j => nI (cf_u p h q j)) ?_ ⟨vp_in_nI hq (by decide), nm_r (e' := upd Ho q (nI h)) ?_ hp⟩⟩
  · rw [nI_clamp (by omega), cf_uI]
  · rw [nI_clamp (by omega)]
theorem cf_xs25 {post : SX → Prop} {h n g k s : Nat} (hh : h < 64) (hg : g < 12) (hk : k < 4) (hs : s < cf_pr k) (fs : Ho (16 * g + s * cf_wd k) = -1) (hl : ∀ j, j < s → Ho (16 * g + j * cf_wd k) ≠ -1)
    (hq : 16 * g + s * cf_wd k < 192)
    (hp : post (cf_S f0 w (upd Ho (16 * g + s * cf_wd k) (nI h)) (cf_u z h n) (cf_u p h (16 * g + s * cf_wd k)) (upd Pk g (nI k)) sp)) :
    wX_settle_25 post (nI h) (nI n) (nI k) (nI g) f0 w Ho (fun j => nI (z j)) (fun j => nI (p j)) Pk sp := by
  refine br_f (cf_nm1 (by omega)) ⟨vp_in_nI hg (by decide), nm_r (e' := upd Pk g (nI k)) ?_ ⟨vp_in_nI hh (by decide), nm_r (e' := fun j => nI (cf_u z h n j)) ?_ (cf_xhole hg hk hs fs hl (cf_xput hh hq hp))⟩⟩
  · rw [nI_clamp (by omega)]
  · rw [nI_clamp (by omega), cf_uI]
end
theorem cf_xsettle {post : SX → Prop} {P : Nat} {z p : Nat → Nat} {c : Nat → Nat → Int32} {w Ho Pk sp : Nat → Int32} (X : cf_X P z p c w Ho Pk) {h n : Nat} (hh : h < 64) (dh : z h = 0) (n1 : 0 < n) (n16 : n ≤ 16)
    (hn : cf_nd (fun c => cf_nk z c + if c = cf_kd n then 1 else 0) ≤ P)
    (hp : ∀ q Ho' Pk', cf_X P (cf_u z h n) (cf_u p h q) (fun y j => if y = h then w (q + j) else c y j) w Ho' Pk' → post (cf_S (nI P) w Ho' (cf_u z h n) (cf_u p h q) Pk' sp)) :
    wpX_settle post (cf_S (nI P) w Ho z p Pk sp) (nI h) (nI n) := by
  have X0 := X
  obtain ⟨h1, h2, hz, hpl, J, D, hw⟩ := X0
  have k4 := cf_kd4 n
  have fin : ∀ g, g < P → ((Pk g = nI (cf_kd n) ∧ cf_hl Ho g < cf_pr (cf_kd n)) ∨ (Pk g = -1 ∧ ∀ g', g' < P → Pk g' = nI (cf_kd n) → ¬ cf_hl Ho g' < cf_pr (cf_kd n))) →
      wX_settle_25 post (nI h) (nI n) (nI (cf_kd n)) (nI g) (nI P) w Ho (fun j => nI (z j)) (fun j => nI (p j)) Pk sp := by
    intro g hg hc
    have hl : cf_hl Ho g < cf_pr (cf_kd n) := by
      rcases hc with ⟨-, b⟩ | ⟨a, -⟩
      · exact b
      · rw [cf_h0 J (by omega) a]; have := cf_pr8 k4; omega
    obtain ⟨s, ⟨hs, fs⟩, ls⟩ := pk_least (fun s => s < cf_pr (cf_kd n) ∧ Ho (16 * g + s * cf_wd (cf_kd n)) = -1) (cf_hole k4 hl)
    have Y := cf_set X hh dh n1 n16 hg hs fs hc
    have q192 : 16 * g + s * cf_wd (cf_kd n) < 192 := by
      have := Y.2.2.2.1 h
      rw [cf_us] at this
      exact this
    exact cf_xs25 hh (by omega) k4 hs fs (fun j hj e => ls j hj ⟨by omega, e⟩) q192 (hp _ _ _ Y)
  unfold wpX_settle
  dsimp only
  refine cf_xkind n16 ?_
  by_cases e : ∃ g, g < P ∧ Pk g = nI (cf_kd n) ∧ cf_hl Ho g < cf_pr (cf_kd n)
  · obtain ⟨g, ⟨hg, eg, lg⟩, ls⟩ := pk_least _ e
    refine cf_xpp_t h2 k4 hg (cf_nm1 (by omega)) ⟨eg, lg⟩ (fun j hj q => ls j hj ⟨by omega, q.2⟩) ?_
    exact br_f (cf_nm1 (by omega)) (fin g hg (Or.inl ⟨eg, lg⟩))
  · have ne : ∀ g, g < P → Pk g = nI (cf_kd n) → ¬ cf_hl Ho g < cf_pr (cf_kd n) := fun g hg eg lg => e ⟨g, hg, eg, lg⟩
    refine cf_xpp_f h2 k4 (fun j hj q => e ⟨j, hj, q.2⟩) (br_t rfl ?_)
    by_cases u : ∃ g, g < P ∧ Pk g = -1
    · obtain ⟨g, ⟨hg, eg⟩, ls⟩ := pk_least _ u
      exact cf_xun h2 hg eg (fun j hj q => ls j hj ⟨by omega, q⟩) (fin g hg (Or.inr ⟨eg, ne⟩))
    · exact (cf_find J D h2 k4 hn ne (fun g hg q => u ⟨g, hg, q⟩)).elim
section
variable {f0 : Int32} {w Ho : Nat → Int32} {z p : Nat → Nat} {Pk sp : Nat → Int32}
theorem cf_xrest {post : SX → Prop} {h m : Nat} (hh : h < 64) (hm : m ≤ 16) (hz : z h ≤ 16) (hq : p h + z h ≤ 192)
    (hp : post (cf_S f0 (cf_wr w (p h) (fun k => if k < m then sp k else 0) (z h)) Ho z p Pk sp)) : wpX_restoreWords post (cf_S f0 w Ho z p Pk sp) (nI h) (nI m) := by
  have key : ∀ d i : Nat, i + d = z h → wX_restoreWords_18 post (nI m) (nI (z h)) (nI (p h)) f0 (d + 1) (nI i) (cf_wr w (p h) (fun k => if k < m then sp k else 0) i) Ho (fun j => nI (z j)) (fun j => nI (p j)) Pk sp := by
    intro d
    induction d with
    | zero =>
      intro i hi
      have e : i = z h := by omega
      rw [e]
      exact br_t (nI_le (Nat.le_refl _) (by omega)) hp
    | succ d ih =>
      intro i hi
      have t := ih (i + 1) (by omega)
      rw [← cf_wr_s] at t
      refine br_f (nI_ge (by omega) (by omega)) (br_c (fun a => ?_) (fun a => ?_))
      · have b : m ≤ i := (nI_leI (by omega) (by omega)).mp a
        refine ⟨cf_ii (by omega) (by decide), nm_r ?_ (nm_r (nI_1 i) t)⟩
        rw [cf_ix (by omega), if_neg (by omega)]
      · have b : i < m := by
          by_cases l : m ≤ i
          · exact absurd (nI_le l (by omega)) a
          · omega
        refine ⟨vp_in_nI (by omega) (by decide), cf_ii (by omega) (by decide), nm_r ?_ (nm_r (nI_1 i) t)⟩
        rw [cf_ix (by omega), if_pos b, nI_clamp (by omega)]
  have k0 := key (z h) 0 (by omega)
  rw [cf_wr_0] at k0
  exact ⟨vp_in_nI hh (by decide), nm_r (cf_szI hh) ⟨vp_in_nI hh (by decide), nm_r (cf_szI (z := p) hh) ⟨z h + 1, k0⟩⟩⟩
theorem cf_xcopyw {post : SX → Prop} {a b n : Nat} (ha : a + n ≤ 192) (hb : b + n ≤ 192) (hd : ∀ i j, i < n → j < n → a + i ≠ b + j)
    (hp : post (cf_S f0 (cf_wr w b (fun k => w (a + k)) n) Ho z p Pk sp)) : wpX_copyWords post (cf_S f0 w Ho z p Pk sp) (nI a) (nI b) (nI n) := by
  have key : ∀ d i : Nat, i + d = n → wX_copyWords_3 post (nI a) (nI b) (nI n) f0 (d + 1) (nI i) (cf_wr w b (fun k => w (a + k)) i) Ho (fun j => nI (z j)) (fun j => nI (p j)) Pk sp := by
    intro d
    induction d with
    | zero =>
      intro i hi
      have e : i = n := by omega
      rw [e]
      exact br_t (nI_le (Nat.le_refl _) (by omega)) hp
    | succ d ih =>
      intro i hi
      have t := ih (i + 1) (by omega)
      rw [← cf_wr_s] at t
      refine br_f (nI_ge (by omega) (by omega)) ⟨cf_ii (by omega) (by decide), cf_ii (by omega) (by decide), nm_r ?_ (nm_r (nI_1 i) t)⟩
      rw [cf_ix (by omega), cf_ix (by omega), cf_wr_out (fun j hj => hd i j (by omega) (by omega))]
  have k0 := key n 0 (by omega)
  rw [cf_wr_0] at k0
  exact ⟨n + 1, k0⟩
theorem cf_xkeep {post : SX → Prop} {h : Nat} (hh : h < 64) (hz : z h ≤ 16) (hq : p h + z h ≤ 192)
    (hp : post (cf_S f0 w Ho z p Pk (cf_wr sp 0 (fun k => w (p h + k)) (z h)))) : wpX_keepWords post (cf_S f0 w Ho z p Pk sp) (nI h) := by
  have key : ∀ d i : Nat, i + d = z h → wX_keepWords_17 post (nI (z h)) (nI (p h)) f0 (d + 1) (nI i) w Ho (fun j => nI (z j)) (fun j => nI (p j)) Pk (cf_wr sp 0 (fun k => w (p h + k)) i) := by
    intro d
    induction d with
    | zero =>
      intro i hi
      have e : i = z h := by omega
      rw [e]
      exact br_t (nI_le (Nat.le_refl _) (by omega)) hp
    | succ d ih =>
      intro i hi
      have t := ih (i + 1) (by omega)
      rw [← cf_wr_s, Nat.zero_add] at t
      refine br_f (nI_ge (by omega) (by omega)) ⟨cf_ii (by omega) (by decide), vp_in_nI (by omega) (by decide), nm_r ?_ (nm_r (nI_1 i) t)⟩
      rw [cf_ix (by omega), nI_clamp (by omega)]
  have k0 := key (z h) 0 (by omega)
  rw [cf_wr_0] at k0
  exact ⟨vp_in_nI hh (by decide), nm_r (cf_szI hh) ⟨vp_in_nI hh (by decide), nm_r (cf_szI (z := p) hh) ⟨z h + 1, k0⟩⟩⟩
/-- x lies at the first place of page o that isn't empty -/
theorem cf_xmove {post : SX → Prop} {o q i x : Nat} (ho : o < 12) (hi : i < 16) (ex : Ho (16 * o + i) = nI x) (hl : ∀ j, j < i → Ho (16 * o + j) = -1) (hx : x < 64)
    (ha : 16 * o + i + z x ≤ 192) (hq : q < 192) (hb : q + z x ≤ 192) (hd : ∀ a b, a < z x → b < z x → 16 * o + i + a ≠ q + b)
    (hp : post (cf_S f0 (cf_wr w q (fun k => w (16 * o + i + k)) (z x)) (upd (upd Ho (16 * o + i) (-1)) q (nI x)) z (cf_u p x q) Pk sp)) :
    wpX_moveOneFrom post (cf_S f0 w Ho z p Pk sp) (nI o) (nI q) := by
  have key : ∀ d j : Nat, j + d = i → wX_moveOneFrom_8 post (nI q) (nI (16 * o)) f0 w Ho (fun j => nI (z j)) (fun j => nI (p j)) Pk sp (d + 1) (nI (16 * o + j)) := by
    intro d
    induction d with
    | zero =>
      intro j hj
      have e : j = i := by omega
      rw [e]
      have en : (nI x).toNatClampNeg = x := nI_clamp (by omega)
      refine br_f (cf_p16f (by omega) (by omega)) ⟨vp_in_nI (by omega) (by decide), nm_r (e' := nI x) ?_ (br_f (cf_nm1 (by omega)) ⟨vp_in_nI hx (by decide), ?_⟩)⟩
      · rw [nI_clamp (by omega)]; exact ex
      · rw [en]
        refine cf_xcopyw (n := z x) ha hb hd ⟨vp_in_nI (by omega) (by decide), nm_r (e' := upd Ho (16 * o + i) (-1)) ?_ (cf_xput hx hq hp)⟩
        rw [nI_clamp (by omega)]
    | succ d ih =>
      intro j hj
      have t := ih (j + 1) (by omega)
      rw [← Nat.add_assoc] at t
      refine br_f (cf_p16f (by omega) (by omega)) ⟨vp_in_nI (by omega) (by decide), nm_r (e' := -1) ?_ (br_t rfl (nm_r (nI_1 _) t))⟩
      rw [nI_clamp (by omega)]
      exact hl j (by omega)
  exact nm_r (cf_m16 o) ⟨i + 1, key i 0 (by omega)⟩
theorem cf_xv55_0 {post : SX → Prop} {g : Nat} (hg : g < 12) (e : cf_hl Ho g = 0) (hp : post (cf_S f0 w Ho z p (upd Pk g (-1)) sp)) :
    wX_vacate_55 post (nI g) f0 w Ho (fun j => nI (z j)) (fun j => nI (p j)) Pk sp := by
  refine cf_xheld hg (br_t ?_ ⟨vp_in_nI hg (by decide), nm_r (e' := upd Pk g (-1)) ?_ hp⟩)
  · rw [e]; rfl
  · rw [nI_clamp (by omega)]
theorem cf_xv55_1 {post : SX → Prop} {g : Nat} (hg : g < 12) (e : 0 < cf_hl Ho g) (hp : post (cf_S f0 w Ho z p Pk sp)) :
    wX_vacate_55 post (nI g) f0 w Ho (fun j => nI (z j)) (fun j => nI (p j)) Pk sp := by
  have b : cf_hl Ho g ≤ 16 := cf_cn_le _ _
  exact cf_xheld hg (br_f (nI_ne0 e (by omega)) hp)
end
theorem cf_xvac {post : SX → Prop} {P : Nat} {z p : Nat → Nat} {c : Nat → Nat → Int32} {w Ho Pk sp : Nat → Int32} (X : cf_X P z p c w Ho Pk) {h : Nat} (hh : h < 64) (lh : 0 < z h)
    (hp : ∀ p' w' Ho' Pk', cf_X P (cf_u z h 0) p' c w' Ho' Pk' → post (cf_S (nI P) w' Ho' (cf_u z h 0) p' Pk' sp)) :
    wpX_vacate post (cf_S (nI P) w Ho z p Pk sp) (nI h) := by
  have X0 := X
  obtain ⟨h1, h2, hz, hpl, J, D, hw⟩ := X0
  obtain ⟨a1, a2, a3, a4⟩ := J.1 h hh lh
  have k4 := cf_kd4 (z h)
  have g12 : p h / 16 < 12 := by omega
  have q192 := hpl h
  refine ⟨vp_in_nI hh (by decide), nm_r (cf_szI (z := p) hh) ⟨by decide, nm_r (e' := nI (p h / 16)) (pk_div (d := 16) (by omega) (by decide) (by decide)) ⟨vp_in_nI hh (by decide),
    nm_r (e' := fun j => nI (cf_u z h 0 j)) ?_ ⟨vp_in_nI q192 (by decide), nm_r (e' := upd Ho (p h) (-1)) ?_ ⟨vp_in_nI g12 (by decide), ?_⟩⟩⟩⟩⟩
  · rw [nI_clamp (by omega)]
    exact cf_uI z h 0
  · rw [nI_clamp (by omega)]
  rw [show (nI (p h / 16)).toNatClampNeg = p h / 16 from nI_clamp (by omega), a2]
  by_cases e : ∃ g, g < P ∧ nI g ≠ nI (p h / 16) ∧ Pk g = nI (cf_kd (z h)) ∧ cf_hl (upd Ho (p h) (-1)) g < cf_pr (cf_kd (z h))
  · obtain ⟨o, ⟨ho, no, ko, lo⟩, ls⟩ := pk_least _ e
    have no' : o ≠ p h / 16 := fun q => no (by rw [q])
    refine cf_xpp_t h2 k4 ho no ⟨ko, lo⟩ (fun j hj q => ls j hj ⟨by omega, q⟩) (br_f (cf_nm1 (by omega)) ?_)
    have J1 := cf_rm J hh lh
    have pos : 0 < cf_hl (upd Ho (p h) (-1)) o := by
      rw [cf_hl_o (fun q => no' q.symm)]
      exact D.1 o ho (by rw [ko]; exact cf_nm1 (by omega))
    obtain ⟨i, ⟨hi, ei⟩, li⟩ := pk_least _ (cf_cn_pos pos)
    obtain ⟨x, hx, lx, ex, px⟩ := J1.2.1 (16 * o + i) (by omega) ei
    have px16 : p x / 16 = o := by omega
    have V := cf_vac2 X hh lh ho no' ko lo hx lx px16
    have hz1 : ∀ y, cf_u z h 0 y ≤ 16 := by
      intro y
      by_cases e : y = h
      · rw [e, cf_us]; omega
      · rw [cf_un e]; exact hz y
    obtain ⟨b1, b2, b3, b4⟩ := J1.1 x hx lx
    have kx : cf_kd (cf_u z h 0 x) = cf_kd (z h) := by
      rw [px16, ko] at b2
      exact (cf_inj (by omega) (by have := cf_kd4 (cf_u z h 0 x); omega) b2).symm
    have fx := cf_fit (cf_u z h 0 x) (by have := hz1 x; omega)
    rw [kx] at fx b3
    have nq : p h ≠ p x := by
      intro q
      rw [← q, cf_vs] at b1
      exact cf_nm1 (by omega) b1.symm
    have dd : ∀ a b, a < cf_u z h 0 x → b < cf_u z h 0 x → 16 * o + i + a ≠ p h + b := by
      intro a b ha hb
      have := cf_dq J1.1 hz1 hx lx k4 a3 a2 nq (i := b) (j := a) (by omega) ha
      omega
    have ia : 16 * o + i + cf_u z h 0 x ≤ 192 := by
      have := cf_inst J1.1 h2 hz1 hx (i := cf_u z h 0 x - 1) (by omega)
      omega
    have ib : p h + cf_u z h 0 x ≤ 192 := by
      have := cf_inpg k4 a3 (i := cf_u z h 0 x - 1) (by omega)
      omega
    refine cf_xmove (by omega) hi ex (fun j hj => ?_) hx ia q192 ib dd ?_
    · by_cases q : upd Ho (p h) (-1) (16 * o + j) = -1
      · exact q
      · exact absurd ⟨by omega, q⟩ (li j hj)
    · rw [← px]
      by_cases f : cf_hl (upd (upd (upd Ho (p h) (-1)) (p x) (-1)) (p h) (nI x)) o = 0
      · exact cf_xv55_0 (by omega) f (hp _ _ _ _ (V.1 f))
      · exact cf_xv55_1 (by omega) (by omega) (hp _ _ _ _ (V.2 (by omega)))
  · have V := cf_vac1 X hh lh (fun g hg n eg lg => e ⟨g, hg, fun q => n (cf_inj (by omega) (by omega) q), eg, lg⟩)
    refine cf_xpp_f h2 k4 (fun j hj q => e ⟨j, hj, q⟩) (br_t rfl ?_)
    by_cases f : cf_hl (upd Ho (p h) (-1)) (p h / 16) = 0
    · exact cf_xv55_0 g12 f (hp _ _ _ _ (V.1 f))
    · exact cf_xv55_1 g12 (by omega) (hp _ _ _ _ (V.2 (by omega)))
