-- ===== swap
def mxf (f : Int → Int) : Nat → Int → Int → Int
  | 0, _, a => a
  | m + 1, i, a => mxf f m (i + 1) (maxI a (f i))
def gapF (f : Int → Int) (n : Int) : Int := mxf f n.toNat 0 0 - mnf f n.toNat 0 1000000
theorem mxf_r {f : Int → Int} {hi : Int} : ∀ (m : Nat) (i a : Int), 0 ≤ a → a ≤ hi → (∀ j, i ≤ j → j < i + m → 0 ≤ f j ∧ f j ≤ hi) → (0 ≤ mxf f m i a ∧ mxf f m i a ≤ hi)
  | 0, _, a, h0, h1, _ => ⟨h0, h1⟩
  | m + 1, i, a, h0, h1, h => by
    have h2 := h i (Int.le_refl i) (by omega)
    have hm : 0 ≤ maxI a (f i) ∧ maxI a (f i) ≤ hi := by unfold maxI; split <;> omega
    exact mxf_r m (i + 1) (maxI a (f i)) hm.1 hm.2 (fun j x y => h j (by omega) (by omega))
theorem gapF_r {f : Int → Int} {n : Int} (hn : 1 ≤ n) (h : ∀ p, 0 ≤ p → p < n → 0 ≤ f p ∧ f p ≤ 27) : -27 ≤ gapF f n ∧ gapF f n ≤ 27 := by
  unfold gapF
  have h1 := mxf_r (f := f) (hi := 27) n.toNat 0 0 (Int.le_refl 0) (by decide) (fun j a b => h j a (by omega))
  have h2 := mnf_r (f := f) (hi := 27) n.toNat 0 1000000 (by decide) (fun j a b => h j a (by omega))
  have h3 := h2.2 (by omega)
  omega
theorem gapOf_ok {d : Nat} {K : Int → Mem → Prop} {σ : Mem} {g : Int} {S : RS} (g0 : 0 ≤ g) (g5 : g ≤ 5) (hA : GA σ g) (hB : GB σ g) (hS : HR σ 285 (σ 357 g) (σ 358 g) S) (hP : PI (σ 357 g) (σ 358 g) S) (hg : ∀ p, 0 ≤ p → p < σ 357 g → 0 ≤ S.2.1 p ∧ S.2.1 p ≤ 3) (k : K (gapF (fun p => pts S (glv σ g p) p) (σ 357 g)) σ) : AM2 i_Hand_gapOf (d + 2) [(2, 285), (2, 4 + 43 * g)] σ K := by
  have hn := hA.1
  have hpt : ∀ p, 0 ≤ p → p < σ 357 g → 0 ≤ pts S (glv σ g p) p ∧ pts S (glv σ g p) p ≤ 27 := fun p a b => pts_r (m := σ 358 g) (fun i i0 i1 => hP.2 p i a b i0 i1) (hg p a b) (fun t t0 t1 => (hB.2 p t a b t0 t1).2)
  have go : ∀ (m : Nat) (p hi lo : Int), 0 ≤ p → p + m = σ 357 g → 0 ≤ hi → hi ≤ 27 → 0 ≤ lo → lo ≤ 1000000 → K (mxf (fun p => pts S (glv σ g p) p) m p hi - mnf (fun p => pts S (glv σ g p) p) m p lo) σ → AW2 i_Hand_gapOf (d + 2) 6 [] [(0, (2, 285)), (1, (2, 4 + 43 * g)), (2, (0, hi)), (3, (0, lo)), (4, (0, p))] σ K := by
    intro m
    induction m with
    | zero =>
      intro p hi lo p0 e h0 h1 l0 l1 k
      refine s_Hand_gapOf_6 ?_
      rw [hA.2.1.1]
      (try simp (disch := omega) only [w32_id, w64_id, inb_eq, st_self, st_ne, pt3, ck_g, ck_am, ck_he, ck_sz, ck_ls, ck_lv, ck_pa, ck_kn, sn_am, sn_he, sn_sz, sn_ls, sn_lv, sn_pa, sn_kn, pt_am, pt_he, pt_sz, pt_ls, pt_lv, pt_pa, pt_kn, ck_lr, ck_vr, ck_pr, sn_lr, sn_vr, sn_pr, pt_lr, pt_vr, pt_pr, pt_sh, ck_sh, pt_to, ck_to, sn_to])
      exact ⟨fun z => by omega, fun _ => k⟩
    | succ m ih =>
      intro p hi lo p0 e h0 h1 l0 l1 k
      have hq := hpt p p0 (by omega)
      refine s_Hand_gapOf_6 ?_
      rw [hA.2.1.1]
      (try simp (disch := omega) only [w32_id, w64_id, inb_eq, st_self, st_ne, pt3, ck_g, ck_am, ck_he, ck_sz, ck_ls, ck_lv, ck_pa, ck_kn, sn_am, sn_he, sn_sz, sn_ls, sn_lv, sn_pa, sn_kn, pt_am, pt_he, pt_sz, pt_ls, pt_lv, pt_pa, pt_kn, ck_lr, ck_vr, ck_pr, sn_lr, sn_vr, sn_pr, pt_lr, pt_vr, pt_pr, pt_sh, ck_sh, pt_to, ck_to, sn_to])
      refine ⟨fun _ => chkK_i rfl (X_pointsOf_ok (lv := glv σ g p) (Or.inr rfl) g0 g5 (by omega) (by omega) hS hP p0 (by omega) (hg p p0 (by omega)) (fun t t0 t1 => hB.2 p t p0 (by omega) t0 t1) ?_), fun z => by omega⟩
      exact ih (p + 1) _ _ (by omega) (by omega) (by unfold maxI; split <;> omega) (by unfold maxI; split <;> omega) (by unfold minI; split <;> omega) (by unfold minI; split <;> omega) k
  exact e_Hand_gapOf (go (σ 357 g).toNat 0 0 1000000 (Int.le_refl 0) (by omega) (Int.le_refl 0) (by decide) (by decide) (by decide) k)
def swF (gp nb : List Nat → Int) : List (List Nat) → Int × Int → Int × Int
  | [], r => r
  | L :: t, r => swF gp nb t (if gp L < r.1 then (gp L, nb L) else r)
def gpG (σ : Mem) (g : Int) (L : List Nat) : Int := gapF (fun p => pts (dlG σ g (oL L) true) (glv σ g p) p) (σ 357 g)
def nbG (σ : Mem) (g : Int) (L : List Nat) : Int := nbr (fun i => oL L i + 0) (σ 357 g).toNat 0 0
/-- what SWAP is: the difference, the order -/
def swG (σ : Mem) (g : Int) : Int × Int := swF (gpG σ g) (nbG σ g) (pmN (σ 357 g).toNat) (1000000, -1)
def I_swap (σ : Mem) : Prop := ∀ g, 0 ≤ g → g < σ 356 0 → σ (4 + 43 * g) 10 = 0 ∨ (σ (4 + 43 * g) 10 = 1 ∧ σ (4 + 43 * g) 11 = (swG σ g).2 ∧ σ (4 + 43 * g) 12 = (swG σ g).1)
theorem gpG_fr {σ s : Mem} {g : Int} (f : ∀ b j, 357 ≤ b → b ≤ 364 → s b j = σ b j) : gpG s g = gpG σ g := by
  funext L
  unfold gpG
  rw [f 357 g (by omega) (by omega), dlG_fr (fun b j x y => f b j x (by omega)), show glv s g = glv σ g from funext fun p => funext fun t => f _ _ (by omega) (by omega)]
theorem swG_fr {σ s : Mem} {g : Int} (f : ∀ b j, 357 ≤ b → b ≤ 364 → s b j = σ b j) : swG s g = swG σ g := by
  unfold swG
  rw [gpG_fr f, f 357 g (by omega) (by omega), show nbG s g = nbG σ g from funext fun L => by unfold nbG; rw [f 357 g (by omega) (by omega)]]
theorem dlL_PI {σ : Mem} {g : Int} {L : List Nat} {back : Bool} (hA : GA σ g) (hl : (L.length : Int) = σ 357 g) (hP : PM (L.length : Int) (oL L)) : PI (σ 357 g) (σ 358 g) (dlG σ g (oL L) back) ∧ ∀ p, 0 ≤ p → p < σ 357 g → 0 ≤ (dlG σ g (oL L) back).2.1 p ∧ (dlG σ g (oL L) back).2.1 p ≤ 3 := dlG_PI hA (by rw [← hl]; exact hP)
theorem gpG_r {σ : Mem} {g : Int} {L : List Nat} (hA : GA σ g) (hB : GB σ g) (hl : (L.length : Int) = σ 357 g) (hP : PM (L.length : Int) (oL L)) : -27 ≤ gpG σ g L ∧ gpG σ g L ≤ 27 := by
  have hPI := dlL_PI (back := true) hA hl hP
  exact gapF_r hA.1.1 (fun p a b => pts_r (m := σ 358 g) (fun i i0 i1 => hPI.1.2 p i a b i0 i1) (hPI.2 p a b) (fun t t0 t1 => (hB.2 p t a b t0 t1).2))
theorem nbG_0 {σ : Mem} {g : Int} {L : List Nat} : 0 ≤ nbG σ g L := nbr_0 _ 0 0 (Int.le_refl 0) (fun j _ _ => by
  show 0 ≤ oL L j + 0
  unfold oL
  omega)
theorem findSwap_ok {d : Nat} {K : Int → Mem → Prop} {σ : Mem} {g : Int} (g0 : 0 ≤ g) (g5 : g < 5) (hA : GA σ g) (hB : GB σ g) (k : ∀ s2 : Mem, s2 (4 + 43 * g) 10 = 1 → s2 (4 + 43 * g) 11 = (swG σ g).2 → s2 (4 + 43 * g) 12 = (swG σ g).1 → (∀ b j, ¬ b = 304 → ¬ (285 ≤ b ∧ b ≤ 303) → ¬ (b = 4 + 43 * g ∧ 10 ≤ j ∧ j ≤ 12) → s2 b j = σ b j) → K 0 s2) : AM2 i_X_findSwap (d + 4) [(2, 0), (2, 4 + 43 * g)] σ K := by
  have hn := hA.1
  have ck := fun {P : Prop} => ck_g (P := P) g0 (show g ≤ 5 by omega)
  have step : ∀ (r : List (List Nat)) (L : List Nat) (i : Int) (R : Int × Int) (s : Mem), CH (L :: r) → (L.length : Int) = σ 357 g → PM (L.length : Int) (oL L) → LR s 304 L → 0 ≤ i → i + (r.length : Int) < 40320 → (∀ b j, ¬ b = 304 → ¬ (285 ≤ b ∧ b ≤ 303) → ¬ (b = 4 + 43 * g ∧ 10 ≤ j ∧ j ≤ 12) → s b j = σ b j) → (R.1 = 1000000 ∨ s (4 + 43 * g) 11 = R.2) → -27 ≤ R.1 → R.1 ≤ 1000000 → swF (gpG σ g) (nbG σ g) (L :: r) R = swG σ g →
      (∀ (M : List Nat) (R2 : Int × Int), nxL L = some M → ∀ s2 : Mem, LR s2 304 M → (∀ b j, ¬ b = 304 → ¬ (285 ≤ b ∧ b ≤ 303) → ¬ (b = 4 + 43 * g ∧ 10 ≤ j ∧ j ≤ 12) → s2 b j = σ b j) → s2 (4 + 43 * g) 11 = R2.2 → -27 ≤ R2.1 → R2.1 ≤ 1000000 → swF (gpG σ g) (nbG σ g) r R2 = swG σ g → AW2 i_X_findSwap (d + 4) 9 [] [(0, (2, 0)), (1, (2, 4 + 43 * g)), (2, (0, R2.1)), (3, (0, i + 1))] s2 K) → (nxL L = none → r = []) →
      AW2 i_X_findSwap (d + 4) 9 [] [(0, (2, 0)), (1, (2, 4 + 43 * g)), (2, (0, R.1)), (3, (0, i))] s K := by
    intro r L i R s hC hl hPM hR i0 i1 f hs r0 r1 e cont hnil
    have hAs : GA s g := GA_fr (fun b j z => f b j (by unfold fA at z; omega) (by unfold fA at z; omega) (by unfold fA at z; omega)) hA
    have e7 : s 357 g = σ 357 g := f _ _ (by omega) (by omega) (by omega)
    have e8 : s 358 g = σ 358 g := f _ _ (by omega) (by omega) (by omega)
    have fm : ∀ b j, 357 ≤ b → b ≤ 364 → s b j = σ b j := fun b j x y => f b j (by omega) (by omega) (by omega)
    have hPI := dlL_PI (back := true) hA hl hPM
    have hgp := gpG_r hA hB hl hPM
    refine s_X_findSwap_9 ⟨fun _ => X_dealG (o := oL L) (back := true) (Or.inr rfl) g0 (by omega) hAs (fun j a b => hR j a (by omega)) (by rw [e7, ← hl]; exact hPM) rfl (fun s1 h1 f1 => ?_), fun z => by omega⟩
    rw [e7, e8, dlG_fr (fun b j x y => fm b j x (by omega))] at h1
    have fa : ∀ b j, ¬ b = 304 → ¬ (285 ≤ b ∧ b ≤ 303) → ¬ (b = 4 + 43 * g ∧ 10 ≤ j ∧ j ≤ 12) → s1 b j = σ b j := fun b j y1 y2 y3 => by rw [f1 b j (by omega), f b j y1 y2 y3]
    have hA1 : GA s1 g := GA_fr (fun b j z => fa b j (by unfold fA at z; omega) (by unfold fA at z; omega) (by unfold fA at z; omega)) hA
    have hB1 : GB s1 g := GB_fr (by omega) (fun b j z => fa b j (by unfold fB at z; omega) (by unfold fB at z; omega) (by unfold fB at z; omega)) hB
    have e71 : s1 357 g = σ 357 g := fa _ _ (by omega) (by omega) (by omega)
    have e81 : s1 358 g = σ 358 g := fa _ _ (by omega) (by omega) (by omega)
    refine gapOf_ok g0 (by omega) hA1 hB1 (by rw [e71, e81]; exact h1) (by rw [e71, e81]; exact hPI.1) (by rw [e71]; exact hPI.2) ?_
    have egp : gapF (fun p => pts (dlG σ g (oL L) true) (glv s1 g p) p) (s1 357 g) = gpG σ g L := by
      unfold gpG
      rw [e71, show glv s1 g = glv σ g from funext fun p => funext fun t => fa _ _ (by omega) (by omega) (by omega)]
    rw [egp]
    have hR1 : LR s1 304 L := fun j a b => by rw [f1 _ _ (by omega)]; exact hR j a b
    have e' : swF (gpG σ g) (nbG σ g) r (if gpG σ g L < R.1 then (gpG σ g L, nbG σ g L) else R) = swG σ g := e
    have e1 : s1 (4 + 43 * g) 1 = σ 357 g := by rw [fa _ _ (by omega) (by omega) (by omega), hA.2.1.1]
    refine ⟨fun c => ?_, fun c => ?_⟩
    · rw [if_pos c] at e'
      rw [ck, e1]
      refine X_numberOf_ok rfl (by omega) (by rw [show sN 304 = 7 from rfl]; omega) (by decide) (Int.le_refl 0) (fun j a b => ?_) (by decide) ?_
      · have := hPM j a (by omega)
        rw [hR1 j a (by omega)]; omega
      · rw [nbr_congr (f' := fun i => oL L i + 0) _ 0 0 (fun j a b => by
          show s1 304 j + 0 = oL L j + 0
          rw [hR1 j a (by omega)])]
        rw [ck, ck]
        have en : nbr (fun i => oL L i + 0) (σ 357 g).toNat 0 0 = nbG σ g L := rfl
        rw [en, st_ne (by omega), e1, ← hl]
        refine X_nextLine_ok (L := L) rfl (by rw [show sN 304 = 7 from rfl]; omega) (by decide) (fun j a b => by rw [st_ne (by omega)]; exact hR1 j a b) (fun hno => br0 ?_) (fun M s2 hM hR2 f2 => br1 ?_)
        · rw [ck, ck]
          rw [hnil hno] at e'
          have e' : (gpG σ g L, nbG σ g L) = swG σ g := e'
          refine k _ (by rw [st_self]) ?_ ?_ (fun b j y1 y2 y3 => by rw [st_ne (by omega), st_ne (by omega), st_ne (by omega), fa b j y1 y2 y3])
          · rw [st_ne (by omega), st_ne (by omega), st_self, ← e']
          · rw [st_ne (by omega), st_self, ← e']
        · rw [w32_id (by omega) (by omega)]
          exact cont M (gpG σ g L, nbG σ g L) hM s2 hR2 (fun b j y1 y2 y3 => by rw [f2 b j (by omega), st_ne (by omega), fa b j y1 y2 y3]) (by rw [f2 _ _ (by omega), st_self]) hgp.1 (by show gpG σ g L ≤ 1000000; omega) e'
    · rw [if_neg c] at e'
      have hs2 : s (4 + 43 * g) 11 = R.2 := by rcases hs with z | z; · omega
                                               · exact z
      rw [ck, e1, ← hl]
      refine X_nextLine_ok (L := L) rfl (by rw [show sN 304 = 7 from rfl]; omega) (by decide) hR1 (fun hno => br0 ?_) (fun M s2 hM hR2 f2 => br1 ?_)
      · rw [ck, ck]
        rw [hnil hno] at e'
        have e' : R = swG σ g := e'
        refine k _ (by rw [st_self]) ?_ ?_ (fun b j y1 y2 y3 => by rw [st_ne (by omega), st_ne (by omega), fa b j y1 y2 y3])
        · rw [st_ne (by omega), st_ne (by omega), f1 _ _ (by omega), hs2, e']
        · rw [st_ne (by omega), st_self, e']
      · rw [w32_id (by omega) (by omega)]
        exact cont M R hM s2 hR2 (fun b j y1 y2 y3 => by rw [f2 b j (by omega), fa b j y1 y2 y3]) (by rw [f2 _ _ (by omega), f1 _ _ (by omega)]; exact hs2) r0 r1 e'
  have go : ∀ (r : List (List Nat)) (L : List Nat) (i : Int) (R : Int × Int) (s : Mem), CH (L :: r) → (L.length : Int) = σ 357 g → PM (L.length : Int) (oL L) → LR s 304 L → 0 ≤ i → i + (r.length : Int) < 40320 → (∀ b j, ¬ b = 304 → ¬ (285 ≤ b ∧ b ≤ 303) → ¬ (b = 4 + 43 * g ∧ 10 ≤ j ∧ j ≤ 12) → s b j = σ b j) → (R.1 = 1000000 ∨ s (4 + 43 * g) 11 = R.2) → -27 ≤ R.1 → R.1 ≤ 1000000 → swF (gpG σ g) (nbG σ g) (L :: r) R = swG σ g → AW2 i_X_findSwap (d + 4) 9 [] [(0, (2, 0)), (1, (2, 4 + 43 * g)), (2, (0, R.1)), (3, (0, i))] s K := by
    intro r
    induction r with
    | nil =>
      intro L i R s hC hl hPM hR i0 i1 f hs r0 r1 e
      refine step [] L i R s hC hl hPM hR i0 i1 f hs r0 r1 e (fun L' _ h => by have hC : nxL L = none := hC; rw [hC] at h; cases h) (fun _ => rfl)
    | cons L' r ih =>
      intro L i R s hC hl hPM hR i0 i1 f hs r0 r1 e
      have hC : nxL L = some L' ∧ CH (L' :: r) := hC
      have hl1 : ((L' :: r).length : Int) = r.length + 1 := by rw [List.length_cons]; omega
      refine step (L' :: r) L i R s hC hl hPM hR i0 i1 f hs r0 r1 e (fun M R2 h s2 x2 f2 w q0 q1 e2 => ?_) (fun h => by rw [hC.1] at h; cases h)
      rw [hC.1] at h
      cases h
      exact ih L' (i + 1) R2 s2 hC.2 (by rw [nxL_len hC.1]; exact hl) (nxL_PM hPM hC.1) x2 (by omega) (by omega) f2 (Or.inr w) q0 q1 e2
  obtain ⟨r, e1, e2, e3⟩ := pm_CH (σ 357 g).toNat (by omega)
  refine e_X_findSwap ?_
  rw [ck, hA.2.1.1, show σ 357 g = (((σ 357 g).toNat : Nat) : Int) by omega]
  refine X_firstLine_ok rfl (by rw [show sN 304 = 7 from rfl]; omega) (by decide) (fun s x f => ?_)
  refine go r (List.range (σ 357 g).toNat) 0 (1000000, -1) s e2 (by rw [List.length_range]; omega) (by rw [List.length_range]; exact range_PM _) x (Int.le_refl 0) (by omega) (fun b j y1 y2 y3 => f b j (by omega)) (Or.inl rfl) (by show (-27 : Int) ≤ 1000000; decide) (by show (1000000 : Int) ≤ 1000000; decide) ?_
  unfold swG
  rw [e1]
